/-! ===== PURE: recover, in both ===== -/
section REC
variable {Φ : tPh} {b0 fu : Nat} {σ τ : tM} {bi sp : Nat → Nat} {w : Nat → Nat × Nat} {C C' C1 X : tS} {D D' D1 D2 : tD} {A B : tS} {J J' : tJ} {K n m k r b t fr to : Nat} {s : Nat → Nat}
theorem byX_dsk : ∀ m b (A B : tS), dsk A (K + m) → b + m ≤ 34 + A 35 6 + A 35 7 → byX b m A = .inl B → dsk B K
  | 0, b, A, B, hd, _, h => by
    have h : Sum.inl A = (Sum.inl B : tS ⊕ tS) := h
    cases h
    exact hd
  | m + 1, b, A, B, hd, hb, h => by
    have h : (if A 69 b = 0 then byX (b + 1) m A else bX (verX A b 0 0) (byX (b + 1) m)) = .inl B := h
    by_cases c : A 69 b = 0
    · rw [if_pos c] at h
      exact byX_dsk m (b + 1) A B (dsk_le hd (by omega)) (by omega) h
    · rw [if_neg c] at h
      by_cases e : A 35 19 = 1
      · have ex : verX A b 0 0 = .inr (powA A) := if_pos e
        rw [ex] at h
        cases h
      · have ex : verX A b 0 0 = .inl (verA A b 0 0) := if_neg e
        rw [ex] at h
        have h : byX (b + 1) m (verA A b 0 0) = .inl B := h
        have d := dsk_ver (K := K + m) (b := b) (wh := 0) (id := 0) hd (by omega) (fun q => by omega)
        have f := (dk_ver (A := A) (b := b) (wh := 0) (id := 0)).2
        exact byX_dsk m (b + 1) _ B d (by rw [f 6 (by decide) (by decide) (by decide) (by decide) (by decide) (by decide), f 7 (by decide) (by decide) (by decide) (by decide) (by decide) (by decide)]; omega) h
theorem byX_o : ∀ m b (A B : tS), byX b m A = .inl B → ∀ o, o ≠ 35 → (o < 39 ∨ 46 < o) → B o = A o
  | 0, b, A, B, h, o, _, _ => by
    have h : Sum.inl A = (Sum.inl B : tS ⊕ tS) := h
    cases h
    rfl
  | m + 1, b, A, B, h, o, h1, h2 => by
    have h : (if A 69 b = 0 then byX (b + 1) m A else bX (verX A b 0 0) (byX (b + 1) m)) = .inl B := h
    by_cases c : A 69 b = 0
    · rw [if_pos c] at h
      exact byX_o m (b + 1) A B h o h1 h2
    · rw [if_neg c] at h
      by_cases e : A 35 19 = 1
      · have ex : verX A b 0 0 = .inr (powA A) := if_pos e
        rw [ex] at h
        cases h
      · have ex : verX A b 0 0 = .inl (verA A b 0 0) := if_neg e
        rw [ex] at h
        have h : byX (b + 1) m (verA A b 0 0) = .inl B := h
        rw [byX_o m (b + 1) _ B h o h1 h2, (dk_ver (A := A) (b := b) (wh := 0) (id := 0)).1 o h1 h2]
/-- how far recovery goes -/
theorem rv_rng (hΦ : goodT Φ) (hok : ∀ w A, Φ w A → okT A) (h : CM b0 σ C D) (hO : OF Φ bi sp C D A J) (hd : dsk A K) : A 35 35 ≤ rvF (rv1 A) ∧ rvF (rv1 A) ≤ A 35 35 + rvT (rv1 A) J (rvF (rv1 A) - A 35 35) ∧ A 35 29 ≤ A 35 35 + rvT (rv1 A) J (rvF (rv1 A) - A 35 35) ∧ A 35 35 + rvT (rv1 A) J (rvF (rv1 A) - A 35 35) ≤ A 35 28 := by
  obtain ⟨-, ρ, -, -, C1, D1, q1, q2, q3, q4, q5⟩ := settle_c (fu := 3000) h hO.1.1 hd hO.2.2.2.1 (fun b hb => hO.2.2.2.2 b (by omega)) (by omega)
  have R1 := RS_set hΦ hok hO hd q2 q3 q4
  obtain ⟨g1, g2, g3⟩ := hdF_eq R1.1
  obtain ⟨l1, l2, l3⟩ := lastWhole_c (fu := 5000) q1 R1.1 R1.2.2.1 (by omega)
  have du := dur_to R1.1
  have e : ∀ q, q ≠ 16 → q ≠ 18 → rv1 A 35 q = A 35 q := fun q a b => by rw [rv1_35, if_neg b, if_neg a]
  rw [e 35 (by decide) (by decide)] at g2 l2 l3 du
  rw [e 28 (by decide) (by decide)] at l3
  rw [e 29 (by decide) (by decide)] at du
  exact ⟨g2, l2, du, l3⟩
/-- what the reference's recovery leaves of the disk, when it comes to its end -/
theorem rvX_hd (hd : dsk A (K + 6200)) (h : rvX (rv1 A) J fr to = .inl B) : AV (fun b w i => b = 0 → w = 1 ∧ i = to) B ∧ (∀ q, q ≤ 14 ∨ 22 ≤ q → B 35 q = A 35 q) := by
  have e : ∀ q, q ≠ 16 → q ≠ 18 → rv1 A 35 q = A 35 q := fun q a b => by rw [rv1_35, if_neg b, if_neg a]
  have d1 : dsk (rv1 A) (K + 6200) := by
    obtain ⟨x1, x2, x3, x4, x5, x6, x7⟩ := hd
    unfold dsk
    rw [e 6 (by decide) (by decide), e 7 (by decide) (by decide), e 15 (by decide) (by decide), e 20 (by decide) (by decide), e 21 (by decide) (by decide), rv1_35 16, if_neg (by decide), if_pos rfl]
    exact ⟨x1, x2, x3, by omega, x5, x6, fun i hi => by omega⟩
  have o2 : ∀ o, o ≠ 69 → rv2 (rv1 A) J fr to o = rv1 A o := fun o ho => by
    funext j
    unfold rv2
    rw [byN_o ho, fl_row ho]
  have b7 := d1.2.1
  have b6 := d1.1
  have d2 : dsk (rv2 (rv1 A) J fr to) (K + 3 + blk (rv1 A)) := dsk_le (dsk_cg d1 (fun q _ => by rw [o2 35 (by decide)]) (o2 42 (by decide)) (o2 43 (by decide))) (by unfold blk; omega)
  have hbk : blk (rv1 A) = 34 + rv2 (rv1 A) J fr to 35 6 + rv2 (rv1 A) J fr to 35 7 := by
    unfold blk
    rw [o2 35 (by decide)]
  have f2 : ∀ q, q ≤ 14 ∨ 22 ≤ q → rv2 (rv1 A) J fr to 35 q = A 35 q := fun q hq => by rw [o2 35 (by decide), e q (by omega) (by omega)]
  unfold rvX at h
  generalize rv2 (rv1 A) J fr to = A2 at *
  generalize blk (rv1 A) = bk at *
  cases e1 : byX 0 bk A2 with
  | inr P =>
    rw [e1] at h
    cases h
  | inl B1 =>
    rw [e1] at h
    have h : rv3 B1 to = .inl B := h
    have dB := byX_dsk bk 0 A2 B1 d2 (by omega) e1
    have fB := byX_f bk 0 A2 B1 e1
    obtain ⟨a1, -, -⟩ := rv3_hd (K := K) dB h
    exact ⟨a1, fun q hq => by rw [rv3_f (K := K) dB h q hq, fB q hq, f2 q hq]⟩
theorem fill_h (h : CM b0 σ C D) (hu : 3000 ≤ fu) : wp (FC b0) σ (m_J7_fill_53178 b0 fu (b0 + 32) (-1) σ) (fun _ τ => CM b0 τ (fl 32 0 0 16 C) D) := by
  have lp : ∀ m k f σ C, CM b0 σ C D → k + m = 16 → m < f → wp (FC b0) σ (L_J7_fill_53178_5 b0 fu f (b0 + 32) (-1) (nI k) (nI 16) σ) (fun _ τ => CM b0 τ (fl 32 0 k m C) D) := by
    intro m
    induction m with
    | zero =>
      intro k f σ C h hk hf
      obtain ⟨f, rfl⟩ : ∃ g, f = g + 1 := ⟨f - 1, by omega⟩
      unfold L_J7_fill_53178_5
      rw [ltb_def, if_l (by omega) (by omega), if_pos (by omega)]
      exact wp_ret ((FC_good b0).1 _) h
    | succ m ih =>
      intro k f σ C h hk hf
      obtain ⟨f, rfl⟩ : ∃ g, f = g + 1 := ⟨f - 1, by omega⟩
      unfold L_J7_fill_53178_5
      rw [ltb_def, if_l (by omega) (by omega), if_neg (by omega), ckC_32 h.lay, ckI_n (by omega) (by omega), ltb_def, ofi, nI_cl (by omega)]
      have h1 : CM b0 (sI σ (b0 + 32) k (-1)) (up2 C 32 k 0) D := CM_fix (o := 32) h rfl (show (-1 : Int32) = nI 0 - 1 by decide) (by decide)
      exact wp_from (FC_good b0) (FC_sI h.rf (by omega)) (ih (k + 1) f _ _ h1 (by omega) (by omega))
  refine wp_grw (FC_good b0) ?_
  rw [ckC_32 h.lay, ltb_def]
  exact lp 16 0 fu σ C h (by omega) (by omega)
/-- recover, while there is no power -/
theorem recover_c (hu : 5000 ≤ fu) (h : CM b0 σ C D) (hO : OF (PH t) bi sp C D A J) (hd : dsk A (K + 6200)) (hK : ∀ p s s', J.2.2.2 p s → J.2.2.2 p s' → s = s') (hfr : fr = rvF (rv1 A)) (hto : to = A 35 35 + rvT (rv1 A) J (fr - A 35 35)) (hs : J.2.2.2 (udC A J to) s) (h34 : A 35 34 < 1000000) :
    wp (FC b0) σ (m_X10_recover b0 fu (b0 + 0) σ) (fun v τ =>
      (∃ B, rvX (rv1 A) J fr to = .inl B ∧ v = .inl (nI to - nI fr) ∧ mfLok 0 64 (ud4 B to (udE B J to) s) ∧ (∃ w C4, SR bi w C4 (ud4 B to (udE B J to) s) ∧ PH t w (ud4 B to (udE B J to) s)) ∧ ∃ w C' D', CM b0 τ C' D' ∧ RO (PH t) bi sp w C' D' (udA B to (udE B J to) s) (udJ J s) ∧ EL D D' 0 0 ∧ dsk (udA B to (udE B J to) s) K) ∨
      (∃ B, rvX (rv1 A) J fr to = .inr B ∧ v = .inr () ∧ ∃ C' D', CM b0 τ C' D' ∧ OF (PH t) bi sp C' D' B J ∧ EL D D' 6 1)) := by
  have hΦ := PH_good t
  have hok : ∀ w A, PH t w A → okT A := PH_ok
  have L := h.lay
  have on : C 1 14 = A 35 18 := hO.1.1.1.2.2.2.2.2.2
  have off : A 35 18 = 0 := hO.2.1
  obtain ⟨n1, n2, n3, n4⟩ := rv_rng hΦ hok h hO hd
  rw [← hfr] at n1 n2 n3 n4
  rw [← hto] at n2 n3 n4
  have e35 : rv1 A 35 35 = A 35 35 := by rw [rv1_35]; rfl
  refine wp_grw (FC_good b0) ?_
  rw [ckC_0 L, osm_p (rfC_0_0 L), ckC_1 L, cf_1_14 h.ca, on, off, if_pos (show nI 0 = (0 : Int32) from rfl), osm_p (rfC_0_3 L), ckC_20 L]
  refine wp_clx (FC_good b0) (P := fun v ρ => (∃ B, rvX (rv1 A) J fr to = .inl B ∧ v = .inl (nI to - nI fr) ∧ ∃ C' D' C1 D1 D2, RS (PH t) bi sp C' D' B J ∧ EP D D' 0 0 ∧ dsk B K ∧ FDs (to - dL D') C' D' C1 D1 ∧ sS D1 D2 ∧ CM b0 ρ (rsC C1 to) (noT D2 to)) ∨ (∃ B, rvX (rv1 A) J fr to = .inr B ∧ v = .inr () ∧ ∃ C' D', CM b0 ρ C' D' ∧ OF (PH t) bi sp C' D' B J ∧ EP D D' 6 1)) (replay_c (K := K) (fu := fu) (fr := fr) (to := to) hΦ hok hu h hO (dsk_le hd (by omega)) hfr hto (fun B e ρ C' D' C1 D1 D2 a1 a2 a3 a4 a5 a6 => Or.inl ⟨B, e, rfl, C', D', C1, D1, D2, a1, a2, a3, a4, a5, a6⟩) (fun B e ρ C' D' a1 a2 a3 => Or.inr ⟨B, e, rfl, C', D', a1, a2, a3⟩)) ?_ ?_
  · rintro v ρ (⟨B, e, ev, C', D', C1, D1, D2, a1, a2, a3, a4, a5, a6⟩ | ⟨B, e, ev, -⟩)
    · have ev : v = nI to - nI fr := by cases ev; rfl
      subst ev
      obtain ⟨hv, hf⟩ := rvX_hd hd e
      obtain ⟨s', w, k1, k2, k3, k4, k5⟩ := CO_new hΦ a1 hv (by rw [hf 29 (by omega)]; exact n3) (by rw [hf 28 (by omega)]; exact n4) a4 a5
      have uc : udC B J to = udC A J to := by
        unfold udC
        rw [hf 35 (by omega)]
      rw [uc] at k1
      have es : s' = s := hK _ _ _ k1 hs
      subst es
      obtain ⟨u1, u2, u3, u4, u5, u6⟩ := ud4_f (B := B) (to := to) (en := udE B J to) (s := s')
      obtain ⟨v1, v2, v3, v4, v5, v6⟩ := ud0_f (B := B) (to := to) (en := udE B J to) (s := s')
      have U35 := u1 35 (by decide) (by decide) (by decide) (by decide) (by decide) (by decide) (by decide)
      have U36 := u1 36 (by decide) (by decide) (by decide) (by decide) (by decide) (by decide) (by decide)
      have P4 : PH t w (ud4 B to (udE B J to) s') := hΦ w _ _ U36 (by rw [U35]) k4
      have M4 : MR bi w (mW (noT D2 to) 0) (ud4 B to (udE B J to) s') := by
        unfold MR NW BW EW us nd pt eZ pv se at k3 ⊢
        rw [U36]
        exact k3
      have mi := k2.2.2.2.2.2.2.2.2.1
      have jo := k2.2.1.2.2.1
      unfold JO at jo
      have b6 : ud4 B to (udE B J to) s' 35 6 = ud0 B to (udE B J to) s' 35 6 := by rw [U35]
      have b7 : ud4 B to (udE B J to) s' 35 7 = ud0 B to (udE B J to) s' 35 7 := by rw [U35]
      have L6 := a6.lay
      rw [ckC_0 L6, osm_p (rfC_0_4 L6), ckC_23 L6]
      refine wp_bind (FC_good b0) (loadAll_c (fu := fu) (A := ud4 B to (udE B J to) s') a6 mi.1 ⟨by rw [b7]; exact mi.2.1.1, by rw [b6]; exact mi.2.1.2, by rw [b7]; omega, by rw [b6]; omega, by rw [b6, b7]; exact k2.1.1.1⟩ mi.2.2.2 P4.2.1 P4.1 M4 (fun x => Nat.lt_of_le_of_lt (mi.2.2.1.1 x).1 (cb_10 a6.ca 15)) (by omega)) ?_
      rintro _ ρ2 ⟨C2, q1, q2⟩
      have r16 : rsC C1 to 10 16 = to + 1 := by
        rw [rsC_f.2.2.1, if_neg (by decide), if_pos rfl]
      have r19 : ∀ n, n < 64 → rsC C1 to 19 n = 0 := fun n hn => by
        unfold rsC
        rw [fl_at, if_pos ⟨rfl, Nat.zero_le _, by omega⟩]
      obtain ⟨W, hW, hWb⟩ : ∃ W : Nat → Nat, (∀ q, q < 65088 → W q = mW (noT D2 to) 0 q) ∧ ∀ q, W q < 18446744073709551616 := by
        refine ⟨fun q => if q < 65088 then mW (noT D2 to) 0 q else 0, fun q hq => if_pos hq, fun q => ?_⟩
        show (if q < 65088 then mW (noT D2 to) 0 q else 0) < _
        by_cases c : q < 65088
        · rw [if_pos c, rwD_mW]
          unfold rwD
          cases ej : dP (noT D2 to) 21 (q / 32) with
          | none => exact (show (0 : Nat) < 18446744073709551616 by decide)
          | some a => exact ((a6.row (Or.inr (Or.inr ⟨rfl, by omega⟩)) ej).2.2.2.2.2 _).2
        · rw [if_neg c]
          decide
      have RO4 : RO (PH t) bi sp w (upR (fl 32 0 0 16 C2) 100 W) (noT D2 to) (ud4 B to (udE B J to) s') (udJ J s') := RO_load hΦ hok PH_ti k2 k3 k4 k5 r16 r19 a1.2.1 a1.2.2.2 rfl hv q2 hW
      have L2 := q1.lay
      rw [ckC_0 L2, osm_p (rfC_0_9 L2)]
      refine wp_bind (FC_good b0) (fill_h (fu := fu) q1 (by omega)) ?_
      intro _ ρ3 q3
      have q4 := CM_gh q3 hWb
      have L3 := q3.lay
      rw [ckC_0 L3, osm_p (rfC_0_2 L3), ckC_18 L3]
      have SR4 := RO4.2.1
      have h71 : ∀ x, x < 16 → ud4 B to (udE B J to) s' 71 x = 0 := u5
      refine wp_bind (FC_good b0) (discardNameless_c (fu := fu) (by omega) q4 SR4 P4 h71) ?_
      intro _ ρ4 q5
      obtain ⟨d1, d2, d3⟩ := dn_all 64 0 _ _ SR4 P4 (by omega) h71
      have kc := KC_dnl 64 0 (upR (fl 32 0 0 16 C2) 100 W)
      have e34 : ud4 B to (udE B J to) s' 35 34 = A 35 34 := by rw [U35, v3 34 (by omega), hf 34 (by omega)]
      have dB : dsk (ud4 B to (udE B J to) s') K := dsk_cg a3 (fun q hq => by rw [U35, v3 q (by omega)]) (by rw [u1 42 (by decide) (by decide) (by decide) (by decide) (by decide) (by decide) (by decide), v1 42 (by decide) (by decide)]) (by rw [u1 43 (by decide) (by decide) (by decide) (by decide) (by decide) (by decide) (by decide), v1 43 (by decide) (by decide)])
      refine wp_ret ((FC_good b0).1 _) (Or.inl ⟨B, e, rfl, mfL_ok 64 0 _ _ SR4 P4 (by omega) h71 (by rw [e34]; exact h34), ⟨w, _, SR4, P4⟩, w, _, _, q5, ?_, ?_, ?_⟩)
      · refine RO_mem hΦ hok PH_ti RO4 (fun p hp => kc p (by omega)) (fun _ _ => rfl) (fun o a b => d3.1 o (by omega) (by omega) (by omega)) (fun q _ a _ => d3.2.1 q a) d3.2.2 d1 d2 ?_
        exact TP_all RO4.1.2.2.2.2.2.2.2.2.2 (fun p hp => kc p (by omega)) (fun o ho => d3.1 o (by omega) (by omega) (by omega)) (d3.2.1 57 (by decide))
      · have g := fd_fx _ _ _ _ _ a4 (by
          have jr := a1.1.2.1
          have := sT_eq jr (to - dL D') 0 (by have := jr.2.1; have := hf 28 (by omega); have := hf 35 (by omega); omega)
          rw [Nat.add_zero] at this
          rw [this, jr.2.2.2.2.1]
          exact szL_mono J.1 (by have := jr.2.1; have := hf 28 (by omega); have := hf 35 (by omega); omega))
        have e1 : dE (noT D2 to) = dE D2 := rfl
        have e2 : dO (noT D2 to) = dO D2 := rfl
        have e3 : kpn (noT D2 to) = kpn D' := by
          unfold kpn
          have x1 : dP (noT D2 to) = dP D2 := rfl
          rw [x1, a5.2, g.1.2.2.2.2.2.1, g.1.2.2.2.2.2.2.1]
        unfold EL
        rw [e1, e2, e3, a5.1.2.2.2.2.2.1, a5.1.2.2.2.2.2.2.1, g.1.2.2.2.2.2.2.2.1, g.1.2.2.2.2.2.2.2.2]
        exact ⟨by have := a2.1; omega, by have := a2.2; omega⟩
      · exact dsk_cg dB (fun q hq => d3.2.1 q (by omega)) (d3.1 42 (by decide) (by decide) (by omega)) (d3.1 43 (by decide) (by decide) (by omega))
    · cases ev
  · rintro ρ (⟨B, e, ev, -⟩ | ⟨B, e, ev, C', D', a1, a2, a3⟩)
    · cases ev
    · exact Or.inr ⟨B, e, rfl, C', D', a1, a2, EL_of a3⟩
end REC
