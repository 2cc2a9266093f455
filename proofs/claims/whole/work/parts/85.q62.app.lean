/-! ===== PURE: the journal's applySome, whole ===== -/
def AZ (Φ : tPh) (b0 : Nat) (bi sp : Nat → Nat) (w : Nat → Nat × Nat) (D : tD) (J : tJ) (K r : Nat) (v : Int32 ⊕ Unit) (τ : tM) (X : tS ⊕ tS) : Prop := match X with
  | .inl B => v = .inl (nI r) ∧ ∃ C' D', CM b0 τ C' D' ∧ RO Φ bi sp w C' D' B J ∧ EP D D' 0 0 ∧ dsk B K
  | .inr B => v = .inr () ∧ ∃ C' D', CM b0 τ C' D' ∧ OF Φ bi sp C' D' B J ∧ EP D D' 6 1
section APT
variable {Φ : tPh} {b0 fu : Nat} {σ τ : tM} {bi sp : Nat → Nat} {w : Nat → Nat × Nat} {C C' : tS} {D D' : tD} {A B : tS} {J J' : tJ} {K n m c : Nat}
theorem ap105 {rc7 : Nat → Int32 → Int32 → Option Nat → tM → Option ((Int32 ⊕ Unit) × tM)} {x1 x2 : Int32} (h : CM b0 σ C D) (n1 : dL D < n) (n2 : n ≤ dH D) : J_X1_applySome_105 b0 fu rc7 (b0 + 20) x1 x2 (some (dT D 0 n)) σ = rc7 (b0 + 20) x1 x2 (if n = dH D then none else some (dT D 0 (n + 1))) σ := by
  obtain ⟨pl, t⟩ := (CG_of (z := mo0) h).tx n1 n2
  unfold J_X1_applySome_105
  rw [omt_some, ckO_tx t, t.2.2.2.1.2.2.2]
  by_cases e : n = dH D
  · rw [if_pos e, omt_none]
  · rw [if_neg e, omt_some]
theorem ap7 (hΦ : goodT Φ) (hok : ∀ w A, Φ w A → okT A) (hu : 3000 ≤ fu) {most : Nat} (hm : most < 2147483648) : ∀ t n f σ C D A cnt, CM b0 σ C D → RO Φ bi sp w C D A J → dsk A (K + 2100 * (A 35 29 - A 35 30)) → dL D < n → n + t = dH D + 1 → n ≤ A 35 30 + 1 → cnt < 2147483648 → t < f →
    wp (FC b0) σ (L_X1_applySome_7 b0 fu f (b0 + 20) (nI most) (nI cnt) (if n = dH D + 1 then none else some (dT D 0 n)) σ) (fun v τ => AZ Φ b0 bi sp w D J K (cnt + min (most - cnt) (A 35 29 - A 35 30)) v τ (apN J (min (most - cnt) (A 35 29 - A 35 30)) A)) := by
  intro t
  induction t with
  | zero =>
    intro n f σ C D A cnt h hR hd n1 hn hna hcn hf
    obtain ⟨f, rfl⟩ : ∃ q, f = q + 1 := ⟨f - 1, by omega⟩
    have jr := hR.1.2.1
    have jo := jr.2.2.1
    unfold JO at jo
    have e0 : min (most - cnt) (A 35 29 - A 35 30) = 0 := by
      have := jr.2.1.2
      omega
    unfold L_X1_applySome_7 J_X1_applySome_113
    rw [ltb_def, if_pos (by omega), omt_none, e0]
    exact wp_ret ((FC_good b0).1 _) ⟨rfl, C, D, h, hR, EP_r D, dsk_le hd (by omega)⟩
  | succ t ih =>
    intro n f σ C D A cnt h hR hd n1 hn hna hcn hf
    obtain ⟨f, rfl⟩ : ∃ q, f = q + 1 := ⟨f - 1, by omega⟩
    have L := h.lay
    have jr := hR.1.2.1
    have jo := jr.2.2.1
    unfold JO at jo
    have nh : n ≤ dH D := by omega
    obtain ⟨pl, tt⟩ := (CG_of (z := mo0) h).tx n1 nh
    have e13 : C 20 13 = A 35 29 := jr.1.2.2.2.2.1
    have e14 : C 20 14 = A 35 30 := jr.1.2.2.2.2.2.1
    have eH := jr.2.1.2
    have stop : min (most - cnt) (A 35 29 - A 35 30) = 0 → wp (FC b0) σ (J_X1_applySome_113 b0 fu (nI cnt) σ) (fun v τ => AZ Φ b0 bi sp w D J K (cnt + min (most - cnt) (A 35 29 - A 35 30)) v τ (apN J (min (most - cnt) (A 35 29 - A 35 30)) A)) := fun e0 => by
      unfold J_X1_applySome_113
      rw [e0]
      exact wp_ret ((FC_good b0).1 _) ⟨rfl, C, D, h, hR, EP_r D, dsk_le hd (by omega)⟩
    unfold L_X1_applySome_7
    rw [ltb_def, if_neg (by omega), omt_some, ckO_tx tt, ckC_20 L, cf_20_13 h.ca, tt.2.2.1.1, e13, if_t (by omega) (by omega)]
    by_cases c1 : A 35 29 < n
    · rw [if_pos c1]
      exact stop (by omega)
    · rw [if_neg c1, if_l hm hcn]
      by_cases c2 : most ≤ cnt
      · rw [if_pos c2]
        exact stop (by omega)
      · rw [if_neg c2, cf_20_14 h.ca, e14, if_l (by omega) (by omega)]
        by_cases c3 : n ≤ A 35 30
        · rw [if_pos c3, ap105 h n1 nh]
          have := ih (n + 1) f σ C D A cnt h hR hd (by omega) (by omega) (by omega) hcn (by omega)
          by_cases e : n = dH D
          · rw [if_pos e]
            rwa [if_pos (by omega)] at this
          · rw [if_neg e]
            rwa [if_neg (by omega)] at this
        · rw [if_neg c3]
          have en : n = A 35 30 + 1 := by omega
          obtain ⟨mm, hmm⟩ : ∃ mm, min (most - cnt) (A 35 29 - A 35 30) = mm + 1 := ⟨min (most - cnt) (A 35 29 - A 35 30) - 1, by omega⟩
          have tr := jr.2.2.2.2.2 n n1 nh
          have b8 := tr.2.2.2.2.2.2.2.1
          have e8 : dT D 8 n = J.1 42 (A 35 30 - A 35 35) := by rw [tr.1.2.2.2.2.1, show n - A 35 35 - 1 = A 35 30 - A 35 35 by omega]
          have xN : apN J (mm + 1) A = bX (applyX A J) (apN J mm) := rfl
          rw [hmm, xN]
          have hd2 : dsk A (K + 2100 * (A 35 29 - n) + dT D 8 n) := dsk_le hd (by omega)
          have e8' := e8
          refine ap41 (J := J) (K := K + 2100 * (A 35 29 - n)) hΦ hok hu (dT D 8 n) 0 fu σ C D A h hR hd2 en (by omega) (by omega) (by omega) (fun τ C' D' B k1 k2 k3 k4 k5 k6 k7 => ?_) (fun τ C' D' B k1 k2 k3 k4 => ?_)
          · rw [e8] at k1
            have ax : applyX A J = .inl (up2 B 35 30 (A 35 30 + 1)) := by
              unfold applyX
              rw [k1]
              rfl
            rw [ax]
            have f29 := k7 29 (by omega)
            have f30 := k7 30 (by omega)
            have f31 := k7 31 (by omega)
            obtain ⟨⟨j1, j2, j3, j4, j5⟩, -⟩ := JP_KW k4
            have g2 : CM b0 (sI τ (b0 + 20) 14 (nI n)) (up2 C' 20 14 n) D' := CM_fix (o := 20) k2 rfl rfl (by show _ < 2147483648; omega)
            have R2 := RO_30 (n := n) hΦ hok k3 (by omega) (by omega)
            have D2 := dsk_30 (n := n) k6
            refine wp_from (FC_good b0) (σ1 := sI τ (b0 + 20) 14 (nI n)) (FC_sI k2.rf (by omega)) ?_
            rw [← j2, ap105 g2 (by rw [j4]; exact n1) (by rw [j5]; exact nh), ← en]
            have b29 : up2 B 35 30 n 35 29 = A 35 29 := by rw [up2_j (by decide), f29]
            have b30 : up2 B 35 30 n 35 30 = n := up2_s _ _ _ _
            have := ih (n + 1) f (sI τ (b0 + 20) 14 (nI n)) (up2 C' 20 14 n) D' (up2 B 35 30 n) (cnt + 1) g2 R2 (by rw [b29, b30]; exact D2) (by rw [j4]; omega) (by rw [j5]; omega) (by rw [b30]; exact Nat.le_refl _) (by omega) (by omega)
            have em : min (most - (cnt + 1)) (up2 B 35 30 n 35 29 - up2 B 35 30 n 35 30) = mm := by
              rw [b29, b30]
              omega
            rw [em, show cnt + 1 + mm = cnt + (mm + 1) by omega] at this
            have last : ∀ v ρ, AZ Φ b0 bi sp w D' J K (cnt + (mm + 1)) v ρ (apN J mm (up2 B 35 30 n)) → AZ Φ b0 bi sp w D J K (cnt + (mm + 1)) v ρ (apN J mm (up2 B 35 30 n)) := fun v ρ q => by
              cases ee : apN J mm (up2 B 35 30 n) with
              | inl X =>
                rw [ee] at q
                obtain ⟨q1, C2, D2, q2, q3, q4, q5⟩ := q
                exact ⟨q1, C2, D2, q2, q3, EP_z k5 q4, q5⟩
              | inr X =>
                rw [ee] at q
                obtain ⟨q1, C2, D2, q2, q3, q4⟩ := q
                exact ⟨q1, C2, D2, q2, q3, EP_z k5 q4⟩
            have fin := wp_mono this (fun v ρ _ q => last v ρ q)
            by_cases e : n = dH D'
            · rw [if_pos e]
              rwa [if_pos (by omega)] at fin
            · rw [if_neg e]
              rwa [if_neg (by omega)] at fin
          · rw [e8] at k1
            have ax : applyX A J = .inr B := by
              unfold applyX
              rw [k1]
              rfl
            rw [ax]
            exact ⟨rfl, C', D', k2, k3, k4⟩
/-- applySome -/
theorem applySome_c (hΦ : goodT Φ) (hok : ∀ w A, Φ w A → okT A) (hu : 3000 ≤ fu) {most : Nat} (hm : most < 2147483648) (h : CM b0 σ C D) (hR : RO Φ bi sp w C D A J) (hd : dsk A (K + 2100 * (A 35 29 - A 35 30))) :
    wp (FC b0) σ (m_X1_applySome b0 fu (b0 + 20) (nI most) σ) (fun v τ => AZ Φ b0 bi sp w D J K (min most (A 35 29 - A 35 30)) v τ (apN J (min most (A 35 29 - A 35 30)) A)) := by
  have jr := hR.1.2.1
  have jo := jr.2.2.1
  unfold JO at jo
  have g := CG_of (z := mo0) h
  have o5 := g.old
  have := ap7 (K := K) hΦ hok hu hm (dH D - dL D) (dL D + 1) fu σ C D A 0 h hR hd (by omega) (by omega) (by rw [jr.2.1.1]; omega) (by omega) (by rw [jr.2.1.2]; omega)
  rw [Nat.sub_zero, Nat.zero_add] at this
  refine wp_grw (FC_good b0) ?_
  rw [ckC_20 h.lay, o5.1]
  by_cases c : dL D = dH D
  · rw [if_pos c, omt_none]
    rwa [if_pos (by omega)] at this
  · rw [if_neg c, omt_some]
    rwa [if_neg (by omega)] at this
theorem ap1_f : ∀ j i k m (A B : tS), ap1 J k m j i A = .inl B → (∀ q, q ≤ 14 ∨ 22 ≤ q → B 35 q = A 35 q)
  | 0, _, _, _, A, B, h => by
    have : A = B := by
      have h : (Sum.inl A : tS ⊕ tS) = .inl B := h
      cases h
      rfl
    rw [this]
    exact fun _ _ => rfl
  | j + 1, i, k, m, A, B, h => by
    have h : (if grv J (J.1 44 (J.1 41 k + i)) (k + 1) m then ap1 J k m j (i + 1) A else bX (verX A (J.1 44 (J.1 41 k + i)) 0 0) (ap1 J k m j (i + 1))) = .inl B := h
    by_cases c : grv J (J.1 44 (J.1 41 k + i)) (k + 1) m = true
    · rw [if_pos c] at h
      exact ap1_f j (i + 1) k m A B h
    · rw [if_neg c] at h
      by_cases e : A 35 19 = 1
      · have ex : verX A (J.1 44 (J.1 41 k + i)) 0 0 = .inr (powA A) := if_pos e
        rw [ex] at h
        cases h
      · have ex : verX A (J.1 44 (J.1 41 k + i)) 0 0 = .inl (verA A (J.1 44 (J.1 41 k + i)) 0 0) := if_neg e
        rw [ex] at h
        have ih := ap1_f j (i + 1) k m _ B h
        intro q hq
        rw [ih q hq]
        exact dk_ver.2 q (by omega) (by omega) (by omega) (by omega) (by omega) (by omega)
theorem apN_f : ∀ m (A B : tS), apN J m A = .inl B → B 35 30 = A 35 30 + m ∧ (∀ q, q ≠ 30 → (q ≤ 14 ∨ 22 ≤ q) → B 35 q = A 35 q)
  | 0, A, B, h => by
    have h : (Sum.inl A : tS ⊕ tS) = .inl B := h
    cases h
    exact ⟨rfl, fun _ _ _ => rfl⟩
  | m + 1, A, B, h => by
    have h : bX (applyX A J) (apN J m) = .inl B := h
    cases e : ap1 J (A 35 30 - A 35 35) (A 35 29 - A 35 30 - 1) (J.1 42 (A 35 30 - A 35 35)) 0 A with
    | inr X =>
      have ax : applyX A J = .inr X := by unfold applyX; rw [e]; rfl
      rw [ax] at h
      cases h
    | inl X =>
      have ax : applyX A J = .inl (up2 X 35 30 (A 35 30 + 1)) := by unfold applyX; rw [e]; rfl
      rw [ax] at h
      obtain ⟨i1, i2⟩ := apN_f m _ B h
      have x := ap1_f _ _ _ _ A X e
      rw [up2_s] at i1
      refine ⟨by omega, fun q h1 h2 => ?_⟩
      rw [i2 q h1 h2, up2_j h1, x q h2]
end APT
