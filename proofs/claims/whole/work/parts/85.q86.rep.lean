/-! ===== PURE: replay, in both ===== -/
section REP
variable {Φ : tPh} {b0 fu : Nat} {σ τ : tM} {bi sp : Nat → Nat} {w : Nat → Nat × Nat} {C C' X : tS} {D D' D'' : tD} {A B : tS} {J J' : tJ} {K n m k r b id wh e o un fr to : Nat}
theorem sT_eq (h : JR sp C D A J) : ∀ m k, k + m ≤ A 35 28 - A 35 35 → sTz D (dL D + k) m = szL J.1 k m
  | 0, _, _ => rfl
  | m + 1, k, hk => by
    have t := h.2.2.2.2.2 (dL D + k + 1) (by omega) (by have := h.2.1; omega)
    have e : dT D 4 (dL D + k + 1) = J.1 39 k := by
      have := t.1.2.2.2.1
      rw [h.2.1.1, show A 35 35 + k + 1 - A 35 35 - 1 = k by omega] at this
      rw [h.2.1.1]
      exact this
    show dT D 4 (dL D + k + 1) + sTz D (dL D + k + 1) m = J.1 39 k + szL J.1 (k + 1) m
    rw [e]
    exact congrArg _ (sT_eq h m (k + 1) (by omega))
/-- marks alone are other: the relation stays -/
theorem RS_mk (hΦ : goodT Φ) (hok : ∀ w A, Φ w A → okT A) (h : RS Φ bi sp C D A J) (hc : ∀ p, p ≠ 22 → C' p = C p) (ha : ∀ o, o ≠ 69 → B o = A o) : RS Φ bi sp C' D B J := by
  obtain ⟨hCO, hon, hun, h46⟩ := h
  have s1 : sC A B := ⟨fun o ho => ha o (by omega), fun q _ _ _ => by rw [ha 35 (by decide)]⟩
  have B35 := ha 35 (by decide)
  obtain ⟨r1, r2, r3, r4, r5, r6, r7, r8, r9, r10⟩ := CO_scr hΦ hok hCO s1
  have jo := r2.2.2.1
  unfold JO at jo
  have sd := sC_sD s1
  refine ⟨⟨DR_all r1 (fun p hp => hc p (by omega)) rfl rfl (fun _ _ _ _ _ _ => rfl) (fun _ _ _ => rfl) (fun _ _ => rfl), JR_all r2 (fun _ => by rw [hc 20 (by decide)]) ⟨rfl, rfl, rfl, rfl⟩ (fun _ _ => rfl), r3, r4, r5, r6, r7, ?_, ?_, TP_all r10 (fun p hp => hc p (by omega)) (fun _ _ => rfl) rfl⟩, by rw [B35]; exact hon, ?_, by rw [ha 46 (by decide)]; exact h46⟩
  · unfold SPJ at r8 ⊢
    rw [hc 20 (by decide)]
    exact r8
  · obtain ⟨m1, m2, m3, m4⟩ := r9
    unfold MI
    rw [hc 10 (by decide), hc 11 (by decide)]
    exact ⟨ci_cong m1 (fun q _ => by rw [hc 10 (by decide)]) (hc 15 (by decide)) (hc 16 (by decide)) (hc 17 (by decide)), m2, m3, m4⟩
  · unfold UNF whB
    unfold UNF whB at hun
    rw [B35]
    rcases hun with q | ⟨q1, i, q2, q3⟩
    · exact Or.inl q
    · exact Or.inr ⟨q1, i, q2, AV_sD sd q3⟩
theorem byX_f : ∀ m b (A B : tS), byX b m A = .inl B → ∀ q, q ≤ 14 ∨ 22 ≤ q → B 35 q = A 35 q := by
  intro m
  induction m with
  | zero =>
    intro b A B h q _
    have h : Sum.inl A = (Sum.inl B : tS ⊕ tS) := h
    cases h
    rfl
  | succ m ih =>
    intro b A B h q hq
    have h : (if A 69 b = 0 then byX (b + 1) m A else bX (verX A b 0 0) (byX (b + 1) m)) = .inl B := h
    by_cases c : A 69 b = 0
    · rw [if_pos c] at h
      exact ih _ _ _ h q hq
    · rw [if_neg c] at h
      by_cases e : A 35 19 = 1
      · have ex : verX A b 0 0 = .inr (powA A) := if_pos e
        rw [ex] at h
        cases h
      · have ex : verX A b 0 0 = .inl (verA A b 0 0) := if_neg e
        rw [ex] at h
        have h : byX (b + 1) m (verA A b 0 0) = .inl B := h
        rw [ih _ _ _ h q hq, (dk_ver (A := A) (b := b) (wh := 0) (id := 0)).2 q (by omega) (by omega) (by omega) (by omega) (by omega) (by omega)]
theorem rv3_f (hd : dsk A (K + 3)) (h : rv3 A to = .inl B) : ∀ q, q ≤ 14 ∨ 22 ≤ q → B 35 q = A 35 q := by
  intro q hq
  have h5 := hd.2.2.1
  have dd := dsk_flu (K := K + 2) hd
  unfold rv3 at h
  by_cases e : A 35 19 = 1
  · have ex : fluX A = .inr (powA A) := if_pos e
    rw [ex] at h
    cases h
  have ex : fluX A = .inl (fluA A) := if_neg e
  rw [ex] at h
  have k1 := (dk_flu h5).2 q (by omega) (by omega) (by omega) (by omega) (by omega) (by omega)
  have h : bX (verX (fluA A) 0 1 to) (fun C => fluX C) = .inl B := h
  generalize fluA A = A1 at *
  by_cases e : A1 35 19 = 1
  · have ex : verX A1 0 1 to = .inr (powA A1) := if_pos e
    rw [ex] at h
    cases h
  have ex : verX A1 0 1 to = .inl (verA A1 0 1 to) := if_neg e
  rw [ex] at h
  have k2 := (dk_ver (A := A1) (b := 0) (wh := 1) (id := to)).2 q (by omega) (by omega) (by omega) (by omega) (by omega) (by omega)
  have h : fluX (verA A1 0 1 to) = .inl B := h
  have v5 : verA A1 0 1 to 35 15 < 256 := (dsk_ver (K := K + 1) (b := 0) (wh := 1) (id := to) dd (by omega) (fun e => by cases e)).2.2.1
  generalize verA A1 0 1 to = A3 at *
  by_cases e : A3 35 19 = 1
  · have ex : fluX A3 = .inr (powA A3) := if_pos e
    rw [ex] at h
    cases h
  have ex : fluX A3 = .inl (fluA A3) := if_neg e
  rw [ex] at h
  have k3 := (dk_flu v5).2 q (by omega) (by omega) (by omega) (by omega) (by omega) (by omega)
  have : B = fluA A3 := by cases h; rfl
  rw [this, k3, k2, k1]
/-- replay -/
theorem replay_c (hΦ : goodT Φ) (hok : ∀ w A, Φ w A → okT A) (hu : 5000 ≤ fu) {Q : Int32 ⊕ Unit → tM → Prop} (h : CM b0 σ C D) (hO : OF Φ bi sp C D A J) (hd : dsk A (K + 2037)) (hfr : fr = rvF (rv1 A)) (hto : to = A 35 35 + rvT (rv1 A) J (fr - A 35 35))
    (hl : ∀ B, rvX (rv1 A) J fr to = .inl B → ∀ ρ C' D' C1 D1 D2, RS Φ bi sp C' D' B J → EP D D' 0 0 → dsk B K → FDs (to - dL D') C' D' C1 D1 → sS D1 D2 → CM b0 ρ (rsC C1 to) (noT D2 to) → Q (.inl (nI to - nI fr)) ρ)
    (hr : ∀ B, rvX (rv1 A) J fr to = .inr B → ∀ ρ C' D', CM b0 ρ C' D' → OF Φ bi sp C' D' B J → EP D D' 6 1 → Q (.inr ()) ρ) :
    wp (FC b0) σ (m_X1_replay b0 fu (b0 + 20) σ) Q := by
  have L := h.lay
  refine wp_grw (FC_good b0) ?_
  rw [ckC_20 L, osm_p (rfC_20_0 L), ckC_1 L]
  refine wp_bind (FC_good b0) (settle_c (fu := fu) h hO.1.1 hd hO.2.2.2.1 (fun b hb => hO.2.2.2.2 b (by omega)) (by omega)) ?_
  rintro _ ρ ⟨C1, D1, q1, q2, q3, q4, q5⟩
  have R1 := RS_set hΦ hok hO hd q2 q3 q4
  have e : ∀ q, q ≠ 16 → q ≠ 18 → rv1 A 35 q = A 35 q := fun q a b => by rw [rv1_35, if_neg b, if_neg a]
  have d1 : dsk (rv1 A) (K + 2037) := by
    obtain ⟨x1, x2, x3, x4, x5, x6, x7⟩ := hd
    unfold dsk
    rw [e 6 (by decide) (by decide), e 7 (by decide) (by decide), e 15 (by decide) (by decide), e 20 (by decide) (by decide), e 21 (by decide) (by decide), rv1_35 16, if_neg (by decide), if_pos rfl]
    exact ⟨x1, x2, x3, by omega, x5, x6, fun i hi => by omega⟩
  rw [← e 35 (by decide) (by decide)] at hto
  generalize rv1 A = A1 at *
  obtain ⟨g1, g2, g3⟩ := hdF_eq R1.1
  obtain ⟨l1, l2, l3⟩ := lastWhole_c (fu := fu) q1 R1.1 R1.2.2.1 hu
  rw [← hfr] at g1 g2 g3 l1 l2 l3
  rw [← hto] at l1 l2 l3
  have jr := R1.1.2.1
  have jo := jr.2.2.1
  unfold JO at jo
  have jl := jr.2.1
  have L1 := q1.lay
  have z0 : (0 : Int32) = nI 0 := rfl
  rw [ckC_20 L1, osm_p (rfC_20_0 L1), ckC_1 L1, z0, tagOf_c q1.ca (by rw [R1.1.1.1.1]; omega) (by rw [R1.1.1.1.1]; omega), cll_some, g1, ckC_20 L1, l1, cll_some, ckC_20 L1]
  refine wp_bind (FC_good b0) (markReplayed_c (fu := fu) (fr := fr) (to := to) q1 (by omega) l2 (by omega) (by omega) (by omega) (fun n a b => by
    have t := txOk_of (fu := fu) jr (by omega) a b
    exact ⟨t.2.2.1, t.2.1⟩)) ?_
  intro _ ρ2 q6
  have MK0 : MK (fl 22 0 0 2034 C1) (fl 69 0 0 6200 A1) := by
    unfold MK
    rw [fl_row (show (35 : Nat) ≠ 69 by decide)]
    refine ⟨fun c a b => ?_, fun b _ hb => by rw [fl_at, if_pos ⟨rfl, Nat.zero_le _, by omega⟩]⟩
    have nl : nbA (fl 69 0 0 6200 A1) c < 6200 := by
      unfold nbA
      rw [fl_row (show (35 : Nat) ≠ 69 by decide)]
      split <;> omega
    rw [fl_at, fl_at, if_pos ⟨rfl, Nat.zero_le _, by omega⟩, if_pos ⟨rfl, Nat.zero_le _, by omega⟩]
  have F35 : fl 69 0 0 6200 A1 35 = A1 35 := fl_row (by decide) _ _ _
  obtain ⟨m1, m2, m3⟩ := mk_n (sp := sp) (D := D1) (J := J) (to - fr) (fr + 1) (fl 22 0 0 2034 C1) (fl 69 0 0 6200 A1) MK0 (by rw [F35]; omega) (fun x a b => by
    have := jr.2.2.2.2.2 x (by omega) (by omega)
    unfold TR nbA at this ⊢
    rw [F35]
    exact this)
  rw [F35, show fr + 1 - A1 35 35 - 1 = fr - A1 35 35 by omega] at m1 m3
  have r2 : rv2 A1 J fr to = byN J (A1 35 35) (fr - A1 35 35) (to - fr) (fl 69 0 0 6200 A1) := rfl
  have R2 : RS Φ bi sp (mrK D1 (fr + 1) (to - fr) (fl 22 0 0 2034 C1)) D1 (rv2 A1 J fr to) J := RS_mk hΦ hok R1 (fun p hp => by rw [m2 p hp, fl_row hp]) (fun o ho => by rw [r2, m3 o ho, fl_row ho])
  have a2 : ∀ o, o ≠ 69 → rv2 A1 J fr to o = A1 o := fun o ho => by rw [r2, m3 o ho, fl_row ho]
  rw [← r2] at m1
  unfold rvX at hl hr
  have d2 : dsk (rv2 A1 J fr to) (K + 2037) := dsk_cg d1 (fun q _ => by rw [a2 35 (by decide)]) (a2 42 (by decide)) (a2 43 (by decide))
  have b2 : blk A1 = blk (rv2 A1 J fr to) := by
    unfold blk
    rw [a2 35 (by decide)]
  rw [b2] at hl hr
  have A235 := a2 35 (by decide)
  generalize rv2 A1 J fr to = A2 at *
  generalize mrK D1 (fr + 1) (to - fr) (fl 22 0 0 2034 C1) = C2 at *
  have n1 : nbA A2 1 = 1 := by
    unfold nbA
    rw [if_pos (by decide)]
  have by0 : byX 0 (blk A2) A2 = byX (nbA A2 1) (blk A2 - nbA A2 1) A2 := by
    rw [n1]
    have := byX_skip 1 0 (blk A2 - 1) A2 (fun x _ hx => m1.2 x (Or.inl (by omega)) (by omega))
    rw [show 1 + (blk A2 - 1) = blk A2 by unfold blk; omega] at this
    exact this
  rw [by0] at hl hr
  have o1 : (1 : Int32) = nI 1 := rfl
  rw [o1]
  have r7 : A2 35 7 ≤ 2000 := d2.2.1
  refine rp30 (K := K + 3) hΦ hok (by omega) (33 + A2 35 7) 1 fu ρ2 C2 D1 A2 q6 R2 m1 (dsk_le d2 (by omega)) (by omega) (by omega) (by omega) ?_
  have yf := fun B e => byX_f (blk A2 - nbA A2 1) (nbA A2 1) A2 B e
  generalize byX (nbA A2 1) (blk A2 - nbA A2 1) A2 = Y at *
  cases Y with
  | inr P => exact fun ρ3 C3 D3 p1 p2 p3 => hr P rfl ρ3 C3 D3 p1 p2 (EP_z q5 p3)
  | inl B =>
    intro ρ3 C3 D3 p1 p2 p3 p4 p5 p6
    have yf := yf B rfl
    have b35 : B 35 35 = A1 35 35 := by rw [yf 35 (by omega), A235]
    have b28 : B 35 28 = A1 35 28 := by rw [yf 28 (by omega), A235]
    have hl : ∀ B2, rv3 B to = .inl B2 → ∀ ρ C' D' C1 D1 D2, RS Φ bi sp C' D' B2 J → EP D D' 0 0 → dsk B2 K → FDs (to - dL D') C' D' C1 D1 → sS D1 D2 → CM b0 ρ (rsC C1 to) (noT D2 to) → Q (.inl (nI to - nI fr)) ρ := fun B2 e => hl B2 e
    have hr : ∀ B2, rv3 B to = .inr B2 → ∀ ρ C' D', CM b0 ρ C' D' → OF Φ bi sp C' D' B2 J → EP D D' 6 1 → Q (.inr ()) ρ := fun B2 e => hr B2 e
    refine rpE_c (K := K) hΦ hok (by omega) p1 p2 p3 (by omega) (by omega) ?_
    have zf := fun B2 e => rv3_f (K := K) (B := B2) (to := to) p3 e
    generalize rv3 B to = Z at *
    cases Z with
    | inr P => exact fun ρ4 C4 D4 s1 s2 s3 => hr P rfl ρ4 C4 D4 s1 s2 (EP_z q5 (EP_z p6 s3))
    | inl B2 =>
      intro ρ4 C4 D4 s1 s2 s3 s4 s5 s6
      have zf := zf B2 rfl
      have jr4 := s2.1.2.1
      have c35 : B2 35 35 = A1 35 35 := by rw [zf 35 (by omega), b35]
      have c28 : B2 35 28 = A1 35 28 := by rw [zf 28 (by omega), b28]
      have l4 : dL D4 = A1 35 35 := by rw [jr4.2.1.1, c35]
      have h4 : dH D4 = A1 35 28 := by rw [jr4.2.1.2, c28]
      refine rpT_c (fu := fu) (to := to) s1 s2.1.2.2.2.2.2.2.2.2.1.1 (by omega) (by omega) (by omega) ?_ (fun n a b => txOk_of (fu := fu) jr4 (by omega) a b) (by omega) (fun ρ5 C5 D5 D6 t1 t2 t3 => hl B2 rfl ρ5 C4 D4 C5 D5 D6 s2 (EP_z q5 (EP_z p6 s6)) s3 t1 t2 t3)
      have := sT_eq jr4 (to - dL D4) 0 (by omega)
      rw [Nat.add_zero] at this
      rw [this, jr4.2.2.2.2.1]
      exact szL_mono J.1 (by omega)
end REP
