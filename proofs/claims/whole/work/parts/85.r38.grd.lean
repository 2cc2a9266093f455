/-! ===== PURE: how much a call touches: blocks dropped ===== -/
section GRD
variable {bi : Nat → Nat} {w : Nat → Nat × Nat} {C X A B E : tS} {t n m k d r s i lo hi lim sz : Nat} {me : Bool}
theorem sl_if {f : Nat → Nat} (h : ∀ n' s', n' < 64 → vs s' → slo B n' s' = if n' = n ∧ s' = s then 0 else slo A n' s') (hn : n < 64) : ∀ s', vs s' → slo B n s' = if s' = s then 0 else slo A n s' := fun s' hs' => by
  rw [h n s' hn hs']
  by_cases c : s' = s
  · rw [if_pos ⟨rfl, c⟩, if_pos c]
  · rw [if_neg (fun q => c q.2), if_neg c]
theorem TL_dt (h : SR bi w C A) (hn : n < 64) (hv : vs s) (h2 : 2000 ≤ s) (h0 : slo A n s ≠ 0) (hj : rs s = false → ∃ j, lo ≤ j ∧ j < hi ∧ j < 1064 ∧ 8 ≤ j ∧ (pa s = pa j ∨ (40 ≤ j ∧ pa s = 2001))) : TL n lo hi A (dtA A n s) ∧ RvL n lim A (dtA A n s) ∧ VL n A (dtA A n s) := by
  unfold dtA
  by_cases q : empA A (slo A n s - 1) = true
  · rw [if_pos q]
    obtain ⟨y, hy⟩ : ∃ y, slo A n s = y + 1 := ⟨slo A n s - 1, by omega⟩
    obtain ⟨v1, v2, v3⟩ := h.ti.2.1 n s y hn hv hy
    rw [hy, Nat.add_sub_cancel] at q
    obtain ⟨o1, o2, o3⟩ := de_all (me := true) h hn hv hy (emp_iff.mp q) (h.ti.2.2.2.2 y v1 (fun _ t => by rw [v3] at t; have : s < 2000 := t; omega))
    exact TL_de hn hv h0 (sl_if (f := fun _ => 0) o2 hn) (o3.1 6) (fun _ => rfl) hj (fun _ => Or.inr h2)
  · rw [if_neg q]
    exact ⟨TL_r, RvL_r, VL_r⟩
theorem TL_50 : TL n lo hi A (up2 A 50 k r) ∧ RvL n lim A (up2 A 50 k r) ∧ VL n A (up2 A 50 k r) := ⟨TL_e (up2_rown (by decide)) (fun _ _ => sl_50), RvL_e (up2_rown (by decide)), fun _ _ => Or.inl sl_50, up2_o (by decide)⟩
theorem all_t (h1 : TL n lo hi A B ∧ RvL n lim A B ∧ VL n A B) (h2 : TL n lo hi B E ∧ RvL n lim B E ∧ VL n B E) : TL n lo hi A E ∧ RvL n lim A E ∧ VL n A E := ⟨TL_t h1.1 h2.1 h1.2.2 h2.2.2, RvL_t h1.2.1 h2.2.1 h1.2.2, VL_t h1.2.2 h2.2.2⟩
theorem TL_drop (h : SR bi w C A) (hn : n < 64) (hkd : nd A n 0 = 1 ∨ nd A n 0 = 2) (hi' : i < 1064) (hb : nd A n 0 = 2 → ∀ r, hasA A n i = r + 1 → ∀ k, k < 8 → eZ A r k 0 = 64) (hlo : lo ≤ i) (hhi : i < hi) (hlim : nd A n 0 = 2 → i < lim) : TL n lo hi A (dropA A n i) ∧ RvL n lim A (dropA A n i) ∧ VL n A (dropA A n i) := by
  have vi : vs i := Or.inl hi'
  unfold dropA
  by_cases c : hasA A n i = 0
  · rw [if_pos c]
    exact ⟨TL_r, RvL_r, VL_r⟩
  rw [if_neg c]
  obtain ⟨r, hr⟩ : ∃ r, hasA A n i = r + 1 := ⟨hasA A n i - 1, by omega⟩
  have sr_ : slo A n i = r + 1 := by rw [hs_slo hi']; exact hr
  obtain ⟨u1, u2, u3⟩ := h.ti.2.1 n i r hn vi sr_
  have z1 : ∀ k, k < 32 → pt A r k = 0 := h.ti.2.2.2.1 r u1 (fun _ => by rw [u3]; show i < 2000; omega)
  have z2 : ∀ k, k < 8 → eZ A r k 0 = 64 := by
    rcases hkd with q | q
    · exact h.ti.2.2.2.2 r u1 (fun _ _ => by rw [u3]; show nd A n 0 ≠ 2; omega)
    · exact hb q r hr
  obtain ⟨g1, g2, g3⟩ := de_all (me := (nd A n 0 == 2)) h hn vi sr_ z1 z2
  have G1 := SR_chg (n := n) (v := 1) (v' := 1) g1 ⟨fun q => by omega, fun q => by omega⟩
  have jj : rs i = false → ∃ j, lo ≤ j ∧ j < hi ∧ j < 1064 ∧ 8 ≤ j ∧ (pa i = pa j ∨ (40 ≤ j ∧ pa i = 2001)) := fun q => by
    have := rs_f q
    exact ⟨i, hlo, hhi, hi', by omega, Or.inl rfl⟩
  have T1 : TL n lo hi A (up2 (deAt A n i (nd A n 0 == 2)) 50 n 1) ∧ RvL n lim A (up2 (deAt A n i (nd A n 0 == 2)) 50 n 1) ∧ VL n A (up2 (deAt A n i (nd A n 0 == 2)) 50 n 1) := all_t (TL_de hn vi (by omega) (sl_if (f := fun _ => 0) g2 hn) (g3.1 6) (fun q => by omega) jj (fun q => by
    have : nd A n 0 = 2 := by simpa using q
    exact Or.inl (hlim this))) TL_50
  have G2 : ∀ n' s', n' < 64 → vs s' → slo (up2 (deAt A n i (nd A n 0 == 2)) 50 n 1) n' s' = if n' = n ∧ s' = i then 0 else slo A n' s' := fun n' s' a b => by rw [sl_50]; exact g2 n' s' a b
  by_cases d : i < 8
  · have hs : rs i = true := decide_eq_true (Or.inl d)
    have er : ro i = 85 + i := by unfold ro; rw [if_neg (by omega), if_neg (by omega)]
    have eA : freeA (setN (up2 A 50 n 1) n (85 + i) 0) (hasA A n i - 1) (nd A n 0 == 2) = up2 (deAt A n i (nd A n 0 == 2)) 50 n 1 := by
      rw [← de_50, ← de_r hn hs, er, sl_50, hs_slo hi']
    rw [if_pos d, eA]
    exact T1
  · have hs : rs i = false := decide_eq_false (by omega)
    obtain ⟨f1, f2, f3, f4, f5⟩ := slo_n (A := A) (n := n) vi hs
    have lz : slo A n (pa i) ≠ 0 := by
      intro z
      rw [if_pos z] at f1
      omega
    have e1 := lf_slo (A := A) (n := n) (i := i) (by omega) hi'
    have ek : kx i = (i - 8) % 32 := by unfold kx; rw [if_neg (by omega)]; split <;> omega
    have ep : plA i = kx i := by rw [ek]; unfold plA; split <;> omega
    have eA : freeA (setP (up2 A 50 n 1) (leafA A n i - 1) (plA i) 0) (hasA A n i - 1) (nd A n 0 == 2) = up2 (deAt A n i (nd A n 0 == 2)) 50 n 1 := by
      rw [← de_50, ← de_n (A := up2 A 50 n 1) (n := n) hs (d := leafA A n i - 1) (k := plA i) (by rw [sl_50, e1]) ep, sl_50, hs_slo hi']
    rw [if_neg d, eA]
    generalize hA1 : up2 (deAt A n i (nd A n 0 == 2)) 50 n 1 = A1 at *
    generalize hC1 : up2 (deCt C A n i (nd A n 0 == 2)) 19 n 1 = C1 at *
    have lz1 : slo A1 n (pa i) = slo A n (pa i) := by rw [G2 n _ hn f2, if_neg (fun q => f5 q.2)]
    have l1 : leafA A n i - 1 = slo A1 n (pa i) - 1 := by rw [lz1, e1]
    by_cases d2 : i < 40
    · have ep2 : pa i = 2000 := by unfold pa; rw [if_neg (by omega), if_pos d2]
      rw [ep2] at lz1 lz l1
      have eD : drop1 A1 n i (leafA A n i - 1) = dtA A1 n 2000 := by
        unfold drop1 dtA
        rw [l1, if_pos d2]
        have := de_r (A := A1) (s := 2000) (me := true) hn rfl
        by_cases q : empA A1 (slo A1 n 2000 - 1) = true
        · rw [if_pos q, if_pos q, ← this]
          rfl
        · rw [if_neg q, if_neg q]
      rw [eD]
      exact all_t T1 (TL_dt G1 hn (by unfold vs; omega) (by omega) (by rw [lz1]; exact lz) (fun q => by cases q))
    · have ep2 : pa i = 2100 + (i - 40) / 32 := by unfold pa; rw [if_neg (by omega), if_neg d2]
      have rp : rs (pa i) = false := by rw [ep2]; exact decide_eq_false (by omega)
      have epp : pa (pa i) = 2001 := by rw [ep2]; unfold pa; rw [if_pos (by omega)]
      have ekp : kx (pa i) = (i - 40) / 32 := by rw [ep2]; unfold kx; rw [if_pos (by omega)]; omega
      obtain ⟨y, hy⟩ : ∃ y, slo A1 n (pa i) = y + 1 := ⟨slo A1 n (pa i) - 1, by omega⟩
      obtain ⟨v1, v2, v3⟩ := G1.ti.2.1 n (pa i) y hn f2 hy
      have n94 : slo A1 n 2001 ≠ 0 := by
        intro z
        have := (slo_n (A := A1) (n := n) f2 rp).1
        rw [epp, if_pos z] at this
        omega
      unfold drop1
      rw [l1, hy, show y + 1 - 1 = y by omega, if_neg d2]
      by_cases q : empA A1 y = true
      · rw [if_pos q]
        obtain ⟨o1, o2, o3⟩ := de_all (me := true) G1 hn f2 hy (emp_iff.mp q) (G1.ti.2.2.2.2 y v1 (fun _ t => by rw [v3] at t; have : pa i < 2000 := t; omega))
        have eA2 : freeA (setP A1 (nd A1 n 94 - 1) ((i - 40) / 32) 0) y true = deAt A1 n (pa i) true := by
          have := de_n (A := A1) (n := n) (s := pa i) (me := true) rp (d := nd A1 n 94 - 1) (k := (i - 40) / 32) (by rw [epp]; rfl) ekp.symm
          rwa [hy, show y + 1 - 1 = y by omega] at this
        have s01 : slo (deAt A1 n (pa i) true) n 2001 = slo A1 n 2001 := by rw [o2 n 2001 hn (by unfold vs; omega), if_neg (fun t => by have := t.2; omega)]
        have eD : drop2 A1 n i (nd A1 n 94 - 1) y = dtA (deAt A1 n (pa i) true) n 2001 := by
          unfold drop2 dtA
          rw [eA2, show nd A1 n 94 - 1 = slo (deAt A1 n (pa i) true) n 2001 - 1 by rw [s01]; rfl]
          have := de_r (A := deAt A1 n (pa i) true) (s := 2001) (me := true) hn rfl
          by_cases t : empA (deAt A1 n (pa i) true) (slo (deAt A1 n (pa i) true) n 2001 - 1) = true
          · rw [if_pos t, if_pos t, ← this]
            rfl
          · rw [if_neg t, if_neg t]
        rw [eD]
        have T2 := TL_de (lo := lo) (hi := hi) (lim := lim) hn f2 (by rw [hy]; omega) (sl_if (f := fun _ => 0) o2 hn) (o3.1 6) (fun _ => rfl) (fun _ => ⟨i, hlo, hhi, hi', by omega, Or.inr ⟨by omega, epp⟩⟩) (fun _ => Or.inr f3)
        exact all_t T1 (all_t T2 (TL_dt o1 hn (by unfold vs; omega) (by omega) (by rw [s01]; exact n94) (fun q => by cases q)))
      · rw [if_neg q]
        exact T1
end GRD
