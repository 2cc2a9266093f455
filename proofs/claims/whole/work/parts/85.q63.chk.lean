/-! ===== PURE: the journal's checkpoint, in both ===== -/
section CHK
variable {Φ : tPh} {b0 fu : Nat} {σ τ : tM} {bi sp : Nat → Nat} {w : Nat → Nat × Nat} {C C' : tS} {D D' : tD} {A B : tS} {J J' : tJ} {K n m c : Nat}
theorem dsk_flu (h : dsk A (K + 1)) : dsk (fluA A) K := by
  have h5 := h.2.2.1
  obtain ⟨i1, i2, i3, i4, i5⟩ := flu_all h5
  have e1 : ∀ q, q ≤ 14 ∨ 22 ≤ q → fluA A 35 q = A 35 q := fun q hq => (dk_flu h5).2 q (by omega) (by omega) (by omega) (by omega) (by omega) (by omega)
  obtain ⟨x1, x2, x3, x4, x5, x6, x7⟩ := h
  refine ⟨by rw [e1 6 (by omega)]; exact x1, by rw [e1 7 (by omega)]; exact x2, i3, by rw [i2]; omega, ?_, ?_, fun i hi => by rw [i2] at hi; omega⟩
  · have : fluA A 35 20 = A 35 20 + 1 := by
      unfold fluA
      rw [up2_j (by decide), (koN_all (actA A 35 16) (actA A) (by rw [act_sD.2.2.2.2.2.1]; exact h5) rfl).2.2.2.1 20 (by decide) (by decide)]
      unfold actA
      rw [up2_s]
    omega
  · have : fluA A 35 21 = A 35 21 + 1 := by
      unfold fluA
      rw [up2_s, (koN_all (actA A 35 16) (actA A) (by rw [act_sD.2.2.2.2.2.1]; exact h5) rfl).2.2.2.1 21 (by decide) (by decide), actA_35 A 21 (by decide) (by decide)]
    omega
theorem dsk_cg (h : dsk A K) (hf : ∀ q, q = 6 ∨ q = 7 ∨ q = 15 ∨ q = 16 ∨ q = 20 ∨ q = 21 → B 35 q = A 35 q) (h42 : B 42 = A 42) (h43 : B 43 = A 43) : dsk B K := by
  obtain ⟨x1, x2, x3, x4, x5, x6, x7⟩ := h
  refine ⟨by rw [hf 6 (by omega)]; exact x1, by rw [hf 7 (by omega)]; exact x2, by rw [hf 15 (by omega)]; exact x3, by rw [hf 16 (by omega)]; exact x4, by rw [hf 20 (by omega)]; exact x5, by rw [hf 21 (by omega)]; exact x6, fun i hi => ?_⟩
  rw [hf 16 (by omega)] at hi
  unfold slOk
  rw [hf 15 (by omega), h42, h43, hf 6 (by omega), hf 7 (by omega)]
  exact x7 i hi
/-- the numbers behind a flush -/
theorem flX_f (hd : dsk A (K + 2)) (jo : JO A J) {s : tP} (h : flushX A J = .inl s) : dsk s.1 K ∧ s.1 35 28 = A 35 28 ∧ s.1 35 29 = A 35 28 ∧ s.1 35 30 = A 35 30 ∧ s.1 35 32 = A 35 31 ∧ s.1 35 35 = A 35 31 ∧ (s.1 35 31 = if A 35 30 ≤ A 35 31 then A 35 31 else A 35 30) ∧ (∀ q, q = 0 ∨ q = 6 ∨ q = 7 ∨ q = 33 ∨ q = 34 ∨ q = 57 → s.1 35 q = A 35 q) ∧ (∀ o, o ≠ 35 → o ≠ 49 → (o < 39 ∨ 46 < o) → s.1 o = A o) := by
  have h5 := hd.2.2.1
  unfold JO at jo
  unfold flushX at h
  by_cases e : A 35 19 = 1
  · have ex : fluX A = .inr (powA A) := if_pos e
    rw [ex] at h
    cases h
  have ex : fluX A = .inl (fluA A) := if_neg e
  rw [ex] at h
  have h : fl2_ (fgA (fl1 (fluA A)) J) (fgJ (fl1 (fluA A)) J) = .inl s := h
  have e1 : ∀ q, q ≤ 14 ∨ 22 ≤ q → fluA A 35 q = A 35 q := fun q hq => (dk_flu h5).2 q (by omega) (by omega) (by omega) (by omega) (by omega) (by omega)
  obtain ⟨x1, x2, x3⟩ := fl1_f (A := fluA A)
  have xb : fl1 (fluA A) 35 35 = A 35 35 := by rw [x2, if_neg (by decide), if_neg (by decide), e1 35 (by omega)]
  have xt : fl1 (fluA A) 35 32 = A 35 31 := by rw [x2, if_pos rfl, e1 31 (by omega)]
  obtain ⟨y1, y2, y3, y4⟩ := fgA_f (A := fl1 (fluA A)) (J := J) (by rw [xb, xt]; omega)
  rw [xt] at y3
  generalize hA3 : fgA (fl1 (fluA A)) J = A3 at y1 y2 y3 y4 h
  generalize hJ3 : fgJ (fl1 (fluA A)) J = J3 at h
  have F : ∀ q, q ≠ 29 → q ≠ 32 → q ≠ 35 → q ≠ 46 → A3 35 q = fluA A 35 q := fun q a b c d => by rw [y2 q d c, x2, if_neg b, if_neg a]
  have F29 : A3 35 29 = A 35 28 := by rw [y2 29 (by decide) (by decide), x2, if_neg (by decide), if_pos rfl, e1 28 (by omega)]
  have F32 : A3 35 32 = A 35 31 := by rw [y2 32 (by decide) (by decide), xt]
  have Fq : ∀ q, q = 0 ∨ q = 6 ∨ q = 7 ∨ q = 28 ∨ q = 30 ∨ q = 31 ∨ q = 33 ∨ q = 34 ∨ q = 57 → A3 35 q = A 35 q := fun q hq => by rw [F q (by omega) (by omega) (by omega) (by omega), e1 q (by omega)]
  have Ro : ∀ o, o ≠ 35 → o ≠ 49 → A3 o = fluA A o := fun o a b => by rw [y1 o a, x1 o a b]
  have R2 : ∀ o, o ≠ 35 → o ≠ 49 → (o < 39 ∨ 46 < o) → A3 o = A o := fun o a b c => by rw [Ro o a b, (dk_flu h5).1 o a c]
  have d3 : dsk A3 (K + 1) := dsk_cg (dsk_flu (K := K + 1) hd) (fun q hq => F q (by omega) (by omega) (by omega) (by omega)) (Ro 42 (by decide) (by decide)) (Ro 43 (by decide) (by decide))
  unfold fl2_ at h
  rw [Fq 30 (by omega), Fq 31 (by omega)] at h
  by_cases c : A 35 30 ≤ A 35 31
  · rw [if_pos c] at h
    have hs : s = (A3, J3) := by cases h; rfl
    rw [hs, if_pos c]
    exact ⟨dsk_le d3 (by omega), Fq 28 (by omega), F29, Fq 30 (by omega), F32, y3, Fq 31 (by omega), fun q hq => Fq q (by omega), R2⟩
  · rw [if_neg c] at h
    have d4 : dsk (up2 A3 35 31 (A 35 30)) (K + 1) := dsk_cg d3 (fun q hq => up2_j (by omega)) (up2_rown (by decide)) (up2_rown (by decide))
    by_cases e2 : up2 A3 35 31 (A 35 30) 35 19 = 1
    · have ex2 : verX (up2 A3 35 31 (A 35 30)) 0 1 (A 35 30) = .inr (powA (up2 A3 35 31 (A 35 30))) := if_pos e2
      rw [ex2] at h
      cases h
    have ex2 : verX (up2 A3 35 31 (A 35 30)) 0 1 (A 35 30) = .inl (verA (up2 A3 35 31 (A 35 30)) 0 1 (A 35 30)) := if_neg e2
    rw [ex2] at h
    have hs : s = (verA (up2 A3 35 31 (A 35 30)) 0 1 (A 35 30), J3) := by cases h; rfl
    have kv := dk_ver (A := up2 A3 35 31 (A 35 30)) (b := 0) (wh := 1) (id := A 35 30)
    have ev : ∀ q, q ≤ 14 ∨ 22 ≤ q → verA (up2 A3 35 31 (A 35 30)) 0 1 (A 35 30) 35 q = up2 A3 35 31 (A 35 30) 35 q := fun q hq => kv.2 q (by omega) (by omega) (by omega) (by omega) (by omega) (by omega)
    have dv := dsk_ver (b := 0) (wh := 1) (id := A 35 30) d4 (by omega) (fun e => by cases e)
    rw [hs, if_neg c]
    dsimp only
    refine ⟨dv, ?_, ?_, ?_, ?_, ?_, ?_, fun q hq => ?_, fun o a b cc => ?_⟩
    · rw [ev 28 (by omega), up2_j (by decide), Fq 28 (by omega)]
    · rw [ev 29 (by omega), up2_j (by decide), F29]
    · rw [ev 30 (by omega), up2_j (by decide), Fq 30 (by omega)]
    · rw [ev 32 (by omega), up2_j (by decide), F32]
    · rw [ev 35 (by omega), up2_j (by decide), y3]
    · rw [ev 31 (by omega), up2_s]
    · rw [ev q (by omega), up2_j (by omega), Fq q (by omega)]
    · rw [kv.1 o a cc, up2_rown a, R2 o a b cc]
theorem RZ_t {e o e' o' : Nat} {X : tP ⊕ tP} {v : Unit ⊕ Unit} (k : EP D D' 0 0) (h : RZ Φ b0 bi sp w D' e o e' o' v τ X) : RZ Φ b0 bi sp w D e o e' o' v τ X := by
  cases X with
  | inl s =>
    obtain ⟨h1, C', D2, h2, h3, h4⟩ := h
    exact ⟨h1, C', D2, h2, h3, EP_z k h4⟩
  | inr s =>
    obtain ⟨h1, C', D2, h2, h3, h4⟩ := h
    exact ⟨h1, C', D2, h2, h3, EP_z k h4⟩
theorem checkpoint_c (hΦ : goodT Φ) (hok : ∀ w A, Φ w A → okT A) (hu : 3000 ≤ fu) (h : CM b0 σ C D) (hR : RO Φ bi sp w C D A J) (hd : dsk A (K + 2100006)) : wp (FC b0) σ (m_X1_checkpoint b0 fu (b0 + 20) σ) (fun v τ => RZ Φ b0 bi sp w D 0 0 6 1 v τ (checkX A J)) := by
  have jo := hR.1.2.1.2.2.1
  refine wp_grw (FC_good b0) ?_
  rw [ckC_20 h.lay]
  unfold checkX
  have f1 := flush_c (K := K + 2100004) hΦ hok h hR hd hu
  cases x1 : flushX A J with
  | inr s1 =>
    rw [x1] at f1
    refine wp_clx (FC_good b0) f1 (fun v ρ q => by cases q.1) (fun ρ q => ?_)
    exact ⟨rfl, q.2⟩
  | inl s1 =>
    rw [x1] at f1
    refine wp_clx (FC_good b0) f1 (fun v ρ q => ?_) (fun ρ q => by cases q.1)
    obtain ⟨-, C1, D1, q1, q2, q3⟩ := q
    obtain ⟨d1, k28, k29, k30, k32, k35, k31, -, -⟩ := flX_f (K := K + 2100004) hd jo x1
    show wp (FC b0) ρ _ (fun v τ => RZ Φ b0 bi sp w D 0 0 6 1 v τ (ck2X s1.1 s1.2))
    have jo1 := q2.1.2.1.2.2.1
    have jo1' := jo1
    unfold JO at jo1'
    have em : min 1000000 (s1.1 35 29 - s1.1 35 30) = s1.1 35 29 - s1.1 35 30 := by omega
    have a1 := applySome_c (K := K + 4) (most := 1000000) hΦ hok hu (by omega) q1 q2 (dsk_le d1 (by omega))
    rw [em] at a1
    rw [ckC_20 q1.lay]
    unfold ck2X
    show wp (FC b0) ρ (clx (m_X1_applySome b0 fu (b0 + 20) (nI 1000000) ρ) _) _
    cases x2 : apN s1.2 (s1.1 35 29 - s1.1 35 30) s1.1 with
    | inr B =>
      rw [x2] at a1
      refine wp_clx (FC_good b0) a1 (fun v ρ q => by cases q.1) (fun ρ q => ?_)
      obtain ⟨-, C2, D2, r1, r2, r3⟩ := q
      exact RZ_t q3 (RZ_r ⟨C2, D2, r1, r2, r3⟩)
    | inl B =>
      rw [x2] at a1
      refine wp_clx (FC_good b0) a1 (fun v ρ q => ?_) (fun ρ q => by cases q.1)
      obtain ⟨-, C2, D2, r1, r2, r3, r4⟩ := q
      obtain ⟨b30, bq⟩ := apN_f _ _ _ x2
      show wp (FC b0) ρ _ (fun v τ => RZ Φ b0 bi sp w D 0 0 6 1 v τ (bP (flushX B s1.2) (fun s2 => flushX s2.1 s2.2)))
      rw [ckC_20 r1.lay]
      have ep2 := EP_z q3 r3
      have f2 := flush_c (K := K + 2) hΦ hok r1 r2 r4 hu
      cases x3 : flushX B s1.2 with
      | inr s2 =>
        rw [x3] at f2
        refine wp_clx (FC_good b0) f2 (fun v ρ q => by cases q.1) (fun ρ q => ?_)
        exact RZ_t ep2 (X := .inr s2) ⟨rfl, q.2⟩
      | inl s2 =>
        rw [x3] at f2
        refine wp_clx (FC_good b0) f2 (fun v ρ q => ?_) (fun ρ q => by cases q.1)
        obtain ⟨-, C3, D3, t1, t2, t3⟩ := q
        obtain ⟨d2, -⟩ := flX_f (K := K + 2) r4 r2.1.2.1.2.2.1 x3
        have ep3 := EP_z ep2 t3
        show wp (FC b0) ρ _ (fun v τ => RZ Φ b0 bi sp w D 0 0 6 1 v τ (flushX s2.1 s2.2))
        rw [ckC_20 t1.lay]
        have f3 := flush_c (K := K) hΦ hok t1 t2 d2 hu
        refine wp_clx (FC_good b0) f3 (fun v ρ q => ?_) (fun ρ q => RZ_t ep3 q)
        exact wp_ret ((FC_good b0).1 _) (RZ_t ep3 q)
/-- the numbers behind a checkpoint -/
theorem ck_f (jo : JO A J) (hd : dsk A (K + 2100006)) (hj : ∀ s, flushX A J = .inl s → JO s.1 s.2 ∧ ∀ B, apN s.2 (s.1 35 29 - s.1 35 30) s.1 = .inl B → (dsk B (K + 4) ∧ JO B s.2) ∧ ∀ s2, flushX B s.2 = .inl s2 → JO s2.1 s2.2) {s : tP} (h : checkX A J = .inl s) : dsk s.1 K ∧ s.1 35 28 = A 35 28 ∧ s.1 35 29 = A 35 28 ∧ s.1 35 35 = A 35 28 ∧ s.1 35 32 = A 35 28 ∧ (∀ q, q = 0 ∨ q = 6 ∨ q = 7 ∨ q = 33 ∨ q = 34 ∨ q = 57 → s.1 35 q = A 35 q) := by
  unfold checkX at h
  cases x1 : flushX A J with
  | inr s1 =>
    rw [x1] at h
    cases h
  | inl s1 =>
    rw [x1] at h
    have h : ck2X s1.1 s1.2 = .inl s := h
    obtain ⟨d1, k28, k29, k30, k32, k35, k31, kq, -⟩ := flX_f (K := K + 2100004) hd jo x1
    obtain ⟨j1, j2⟩ := hj s1 x1
    unfold ck2X at h
    cases x2 : apN s1.2 (s1.1 35 29 - s1.1 35 30) s1.1 with
    | inr B =>
      rw [x2] at h
      cases h
    | inl B =>
      rw [x2] at h
      have h : bP (flushX B s1.2) (fun s2 => flushX s2.1 s2.2) = .inl s := h
      obtain ⟨b30, bq⟩ := apN_f _ _ _ x2
      obtain ⟨⟨j3, j4⟩, j5⟩ := j2 B x2
      cases x3 : flushX B s1.2 with
      | inr s2 =>
        rw [x3] at h
        cases h
      | inl s2 =>
        rw [x3] at h
        have h : flushX s2.1 s2.2 = .inl s := h
        obtain ⟨d2, m28, m29, m30, m32, m35, m31, mq, -⟩ := flX_f (K := K + 2) j3 j4 x3
        obtain ⟨d3, n28, n29, n30, n32, n35, n31, nq, -⟩ := flX_f (K := K) d2 (j5 s2 x3) h
        unfold JO at jo j1 j4
        have c28 := bq 28 (by decide) (by omega)
        have c31 := bq 31 (by decide) (by omega)
        have e31 : s2.1 35 31 = A 35 28 := by
          rw [m31]
          split <;> omega
        refine ⟨d3, by omega, by omega, by omega, by omega, fun q hq => ?_⟩
        rw [nq q hq, mq q hq, bq q (by omega) (by omega), kq q hq]
end CHK
