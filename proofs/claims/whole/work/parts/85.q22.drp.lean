/-! ===== PURE: drop, in both: SR stays ===== -/
section SRK
variable {bi : Nat → Nat} {w : Nat → Nat × Nat} {C A B X : tS} {W V : Nat → Nat} {n s i : Nat} {me : Bool}
theorem lc_50 {k v : Nat} : lcA (up2 A 50 k v) n s = lcA A n s ∧ tcC (up2 A 50 k v) n s = tcC A n s ∧ ∀ c, nbA (up2 A 50 k v) c = nbA A c := by
  unfold lcA tcC nbA
  rw [sl_50, up2_o (show (35 : Nat) ≠ 50 by decide)]
  exact ⟨rfl, rfl, fun _ => rfl⟩
theorem de_50 {k v : Nat} : deAt (up2 A 50 k v) n s me = up2 (deAt A n s me) 50 k v := by
  unfold deAt
  rw [lc_50.1, lc_50.2.1, (lc_50 (A := A) (n := n) (s := s) (k := k) (v := v)).2.2, sl_50, up_c (by decide), up_c (by decide), free_50]
theorem dt_e (H : SR bi w C A) (hn : n < 64) (hs : s = 2000 ∨ s = 2001) (h0 : slo A n s ≠ 0) (h3 : nd A n 0 ≠ 3) : deC C n (ro s - 84) = dtC C A n s := by
  obtain ⟨-, -, r9, r10⟩ := pt_c H.ok H.ti H.mr hn h3 (i := 0) (by omega)
  have rr : rs s = true := decide_eq_true (by omega)
  have e : nwC C n (ro s - 84) = pv bi A (slo A n s) := by
    rcases hs with rfl | rfl
    · exact r9
    · exact r10
  have le : slo A n s ≤ 2000 := by
    rw [slo_r rr]
    have := ro_lt rr
    exact nd_le H.ok hn (by omega) (by omega)
  unfold deC dtC
  rw [e, pv_mod le, if_neg h0, show 33 + slo A n s = 34 + (slo A n s - 1) by omega, deC_r (A := A) rr rfl]
theorem SR_drop (h : SR bi w C A) (hn : n < 64) (hkd : nd A n 0 = 1 ∨ nd A n 0 = 2) (hi : i < 1064) (hb : nd A n 0 = 2 → ∀ r, hasA A n i = r + 1 → ∀ k, k < 8 → eZ A r k 0 = 64) :
    SR bi w (drT C n i) (dropA A n i) ∧ slo (dropA A n i) n i = 0 ∧ (∀ n' s', n' < 64 → vs s' → slo (dropA A n i) n' s' = slo A n' s' ∨ (n' = n ∧ slo (dropA A n i) n' s' = 0 ∧ (s' = i ∨ 2000 ≤ s'))) ∧ Les C (drT C n i) A (dropA A n i) ∧ (TF A → TF (dropA A n i)) := by
  have h3 : nd A n 0 ≠ 3 := by omega
  have vi : vs i := Or.inl hi
  obtain ⟨p1, p2, p3, p4⟩ := pt_c h.ok h.ti h.mr hn h3 hi
  have ki := (hd_c h.ok h.mr hn).1
  unfold drT dropA
  by_cases c : hasA A n i = 0
  · rw [if_pos c, if_pos (show ptC C n i = 0 by rw [p1, c]; rfl)]
    exact ⟨h, by rw [hs_slo hi]; exact c, fun _ _ _ _ => Or.inl rfl, Les_r, fun t => t⟩
  rw [if_neg c, if_neg (show ¬ ptC C n i = 0 from fun q => c (pv_0.mp (p1 ▸ q)))]
  obtain ⟨r, hr⟩ : ∃ r, hasA A n i = r + 1 := ⟨hasA A n i - 1, by omega⟩
  have sr_ : slo A n i = r + 1 := by rw [hs_slo hi]; exact hr
  obtain ⟨u1, u2, u3⟩ := h.ti.2.1 n i r hn vi sr_
  have rlt := (h.ti.1 r u1 u2).1
  have z1 : ∀ k, k < 32 → pt A r k = 0 := h.ti.2.2.2.1 r u1 (fun _ => by rw [u3]; show i < 2000; omega)
  have z2 : ∀ k, k < 8 → eZ A r k 0 = 64 := by
    rcases hkd with q | q
    · exact h.ti.2.2.2.2 r u1 (fun _ _ => by rw [u3]; show nd A n 0 ≠ 2; omega)
    · exact hb q r hr
  obtain ⟨g1, g2, g3⟩ := de_all (me := (nd A n 0 == 2)) h hn vi sr_ z1 z2
  have G1 := SR_chg (n := n) (v := 1) (v' := 1) g1 ⟨fun q => by omega, fun q => by omega⟩
  have G3 : Les C (up2 (deCt C A n i (nd A n 0 == 2)) 19 n 1) A (up2 (deAt A n i (nd A n 0 == 2)) 50 n 1) := Les_t g3 Les_50
  have pm : ptC C n i % 2048 = 34 + r := by rw [p1, hr, pv_mod (by omega), if_neg (by omega)]; omega
  -- the class's first step
  have d1 : dr1 C n i = up2 (deCt C A n i (nd A n 0 == 2)) 19 n 1 := by
    unfold dr1
    have k0 : kiC (spC C n i 0) n = nd A n 0 := by
      rw [← ki]
      unfold kiC
      congr 1
      unfold spC
      by_cases d : i < 8
      · rw [if_pos d]
        unfold snC nwC
        rw [tou_o (by decide) (by decide), up2_j (by omega)]
      · rw [if_neg d]
        unfold swoC
        split
        · rename_i q
          unfold nwC
          rw [tou_o (by decide) (by decide), up2_j]
          have hs : rs i = false := decide_eq_false (by omega)
          have e1 := lf_slo (A := A) (n := n) (i := i) (by omega) hi
          have lz : leafA A n i ≠ 0 := by
            intro z
            have := (slo_n (A := A) (n := n) vi hs).1
            rw [e1, if_pos z] at this
            omega
          obtain ⟨y, hy⟩ : ∃ y, leafA A n i = y + 1 := ⟨leafA A n i - 1, by omega⟩
          have uy := h.ti.2.1 n (pa i) y hn (slo_n (A := A) (n := n) vi hs).2.1 (by rw [e1]; exact hy)
          rw [p2 (by omega), hy, pv_mod (by omega), if_neg (by omega)]
          omega
        · rfl
    rw [k0, pm]
    congr 1
    unfold spC
    by_cases d : i < 8
    · have hs : rs i = true := decide_eq_true (Or.inl d)
      have er : ro i = 85 + i := by unfold ro; rw [if_neg (by omega), if_neg (by omega)]
      rw [if_pos d, ← deC_r (A := A) (C := C) (n := n) (me := (nd A n 0 == 2)) hs (c := 34 + r) (by rw [sr_]; omega), er, show 85 + i - 84 = 1 + i by omega]
    · have hs : rs i = false := decide_eq_false (by omega)
      have e1 := lf_slo (A := A) (n := n) (i := i) (by omega) hi
      have ek : kx i = (i - 8) % 32 := by unfold kx; rw [if_neg (by omega)]; split <;> omega
      have lz : slo A n (pa i) ≠ 0 := by
        intro z
        have := (slo_n (A := A) (n := n) vi hs).1
        rw [if_pos z] at this
        omega
      obtain ⟨y, hy⟩ : ∃ y, slo A n (pa i) = y + 1 := ⟨slo A n (pa i) - 1, by omega⟩
      have uy := h.ti.2.1 n (pa i) y hn (slo_n (A := A) (n := n) vi hs).2.1 hy
      have ylt := (h.ti.1 y uy.1 uy.2.1).1
      rw [if_neg d, p2 (by omega), ← e1, hy, pv_mod (by omega), if_neg (by omega)]
      exact deC_n hs (by rw [sr_]; omega) (by rw [hy]; omega) ek.symm (by rw [h.zm.1.1]; omega)
  have G2 : ∀ n' s', n' < 64 → vs s' → slo (up2 (deAt A n i (nd A n 0 == 2)) 50 n 1) n' s' = if n' = n ∧ s' = i then 0 else slo A n' s' := fun n' s' a b => by rw [sl_50]; exact g2 n' s' a b
  rw [d1]
  by_cases d : i < 8
  · have hs : rs i = true := decide_eq_true (Or.inl d)
    have er : ro i = 85 + i := by unfold ro; rw [if_neg (by omega), if_neg (by omega)]
    have eA : freeA (setN (up2 A 50 n 1) n (85 + i) 0) (hasA A n i - 1) (nd A n 0 == 2) = up2 (deAt A n i (nd A n 0 == 2)) 50 n 1 := by
      rw [← de_50, ← de_r hn hs, er, sl_50, hs_slo hi]
    rw [if_pos d, if_pos d, eA]
    refine ⟨G1, by rw [G2 n i hn vi, if_pos ⟨rfl, rfl⟩], fun n' s' a b => ?_, G3, fun t => (TF_de (TF_x t) vi G2).1 hs⟩
    rw [G2 n' s' a b]
    by_cases q : n' = n ∧ s' = i
    · rw [if_pos q]
      exact Or.inr ⟨q.1, rfl, Or.inl q.2⟩
    · rw [if_neg q]
      exact Or.inl rfl
  · have hs : rs i = false := decide_eq_false (by omega)
    obtain ⟨f1, f2, f3, f4, f5⟩ := slo_n (A := A) (n := n) vi hs
    have lz : slo A n (pa i) ≠ 0 := by
      intro z
      rw [if_pos z] at f1
      omega
    have e1 := lf_slo (A := A) (n := n) (i := i) (by omega) hi
    have ek : kx i = (i - 8) % 32 := by unfold kx; rw [if_neg (by omega)]; split <;> omega
    have ep : plA i = kx i := by rw [ek]; unfold plA; split <;> omega
    have eA : freeA (setP (up2 A 50 n 1) (leafA A n i - 1) (plA i) 0) (hasA A n i - 1) (nd A n 0 == 2) = up2 (deAt A n i (nd A n 0 == 2)) 50 n 1 := by
      rw [← de_50, ← de_n (A := up2 A 50 n 1) (n := n) hs (d := leafA A n i - 1) (k := plA i) (by rw [sl_50, e1]) ep, sl_50, hs_slo hi]
    rw [if_neg d, if_neg d, eA]
    have tx : TF A → TFx (up2 (deAt A n i (nd A n 0 == 2)) 50 n 1) n (pa i) := fun t => (TF_de (TF_x t) vi G2).2 hs
    have k1 : nd (up2 (deAt A n i (nd A n 0 == 2)) 50 n 1) n 0 = nd A n 0 := G3.2.2.2.1 n 0 hn (by omega)
    generalize hA1 : up2 (deAt A n i (nd A n 0 == 2)) 50 n 1 = A1 at *
    generalize hC1 : up2 (deCt C A n i (nd A n 0 == 2)) 19 n 1 = C1 at *
    have lz1 : slo A1 n (pa i) = slo A n (pa i) := by rw [G2 n _ hn f2, if_neg (fun q => f5 q.2)]
    have l1 : leafA A n i - 1 = slo A1 n (pa i) - 1 := by rw [lz1, e1]
    by_cases d2 : i < 40
    · have ep2 : pa i = 2000 := by unfold pa; rw [if_neg (by omega), if_pos d2]
      rw [ep2] at lz1 lz l1 tx
      obtain ⟨x1, x2, x3, x4, x5⟩ := dt_all (s := 2000) G1 hn (by unfold vs; omega) (by omega) (by rw [lz1]; exact lz)
      have eD : drop1 A1 n i (leafA A n i - 1) = dtA A1 n 2000 := by
        unfold drop1 dtA
        rw [l1, if_pos d2]
        have := de_r (A := A1) (s := 2000) (me := true) hn rfl
        by_cases q : empA A1 (slo A1 n 2000 - 1) = true
        · rw [if_pos q, if_pos q, ← this]
          rfl
        · rw [if_neg q, if_neg q]
      have eC := dt_e (s := 2000) G1 hn (Or.inl rfl) (by rw [lz1]; exact lz) (by omega)
      have e84 : ro 2000 - 84 = 9 := rfl
      rw [e84] at eC
      rw [if_pos d2, eD, eC]
      refine ⟨x1, ?_, fun n' s' a b => ?_, Les_t G3 x4, fun t => (x5 (tx t)).1 rfl⟩
      · rw [x2 n i hn vi (by omega), G2 n i hn vi, if_pos ⟨rfl, rfl⟩]
      · by_cases q : n' = n ∧ s' = 2000
        · rw [q.1, q.2]
          rcases x3 with y | y
          · exact Or.inl (by rw [y, lz1])
          · exact Or.inr ⟨rfl, y, Or.inr (by omega)⟩
        · rw [x2 n' s' a b q, G2 n' s' a b]
          by_cases q2 : n' = n ∧ s' = i
          · rw [if_pos q2]
            exact Or.inr ⟨q2.1, rfl, Or.inl q2.2⟩
          · rw [if_neg q2]
            exact Or.inl rfl
    · have ep2 : pa i = 2100 + (i - 40) / 32 := by unfold pa; rw [if_neg (by omega), if_neg d2]
      have rp : rs (pa i) = false := by rw [ep2]; exact decide_eq_false (by omega)
      have epp : pa (pa i) = 2001 := by rw [ep2]; unfold pa; rw [if_pos (by omega)]
      have ekp : kx (pa i) = (i - 40) / 32 := by rw [ep2]; unfold kx; rw [if_pos (by omega)]; omega
      obtain ⟨y, hy⟩ : ∃ y, slo A1 n (pa i) = y + 1 := ⟨slo A1 n (pa i) - 1, by omega⟩
      obtain ⟨v1, v2, v3⟩ := G1.ti.2.1 n (pa i) y hn f2 hy
      have ee := emp_c G1 v1 v2 (by rw [v3]; exact f3)
      obtain ⟨-, r2, -, r4⟩ := pt_c G1.ok G1.ti G1.mr hn (show nd A1 n 0 ≠ 3 by omega) hi
      have e1' := lf_slo (A := A1) (n := n) (i := i) (by omega) hi
      have tbm : tbC C1 n i % 2048 = 34 + y := by rw [r2 (by omega), ← e1', hy, pv_mod (by omega), if_neg (by omega)]; omega
      have n94 : slo A1 n 2001 ≠ 0 := by
        intro z
        have := (slo_n (A := A1) (n := n) f2 rp).1
        rw [epp, if_pos z] at this
        omega
      obtain ⟨z, hz⟩ : ∃ z, slo A1 n 2001 = z + 1 := ⟨slo A1 n 2001 - 1, by omega⟩
      obtain ⟨w1, w2, w3⟩ := G1.ti.2.1 n 2001 z hn (by unfold vs; omega) hz
      have zlt := (G1.ti.1 z w1 w2).1
      have nwm : nwC C1 n 10 % 2048 = 34 + z := by rw [r4, show nd A1 n 94 = z + 1 from hz, pv_mod (by omega), if_neg (by omega)]; omega
      rw [if_neg d2]
      unfold drop1 dr2
      rw [l1, hy, show y + 1 - 1 = y by omega, if_neg d2, tbm, nwm]
      by_cases q : empA A1 y = true
      · rw [if_pos q, if_pos (ee.mpr q)]
        obtain ⟨o1, o2, o3⟩ := de_all (me := true) G1 hn f2 hy (emp_iff.mp q) (G1.ti.2.2.2.2 y v1 (fun _ t => by rw [v3] at t; have : pa i < 2000 := t; omega))
        have eC2 : relC (swoC C1 (34 + z) ((i - 40) / 32) 0) (34 + y) true = deCt C1 A1 n (pa i) true := deC_n rp (by rw [hy]; omega) (by rw [epp, hz]; omega) ekp.symm (by rw [G1.zm.1.1]; omega)
        have eA2 : freeA (setP A1 (nd A1 n 94 - 1) ((i - 40) / 32) 0) y true = deAt A1 n (pa i) true := by
          have := de_n (A := A1) (n := n) (s := pa i) (me := true) rp (d := nd A1 n 94 - 1) (k := (i - 40) / 32) (by rw [epp]; rfl) ekp.symm
          rwa [hy, show y + 1 - 1 = y by omega] at this
        have s01 : slo (deAt A1 n (pa i) true) n 2001 = slo A1 n 2001 := by rw [o2 n 2001 hn (by unfold vs; omega), if_neg (fun t => by have := t.2; omega)]
        have k2 : nd (deAt A1 n (pa i) true) n 0 = nd A1 n 0 := o3.2.2.2.1 n 0 hn (by omega)
        obtain ⟨x1, x2, x3, x4, x5⟩ := dt_all (s := 2001) o1 hn (by unfold vs; omega) (by omega) (by rw [s01]; exact n94)
        have eD : drop2 A1 n i (nd A1 n 94 - 1) y = dtA (deAt A1 n (pa i) true) n 2001 := by
          unfold drop2 dtA
          rw [eA2, show nd A1 n 94 - 1 = slo (deAt A1 n (pa i) true) n 2001 - 1 by rw [s01]; rfl]
          have := de_r (A := deAt A1 n (pa i) true) (s := 2001) (me := true) hn rfl
          by_cases t : empA (deAt A1 n (pa i) true) (slo (deAt A1 n (pa i) true) n 2001 - 1) = true
          · rw [if_pos t, if_pos t, ← this]
            rfl
          · rw [if_neg t, if_neg t]
        have eC := dt_e (s := 2001) o1 hn (Or.inr rfl) (by rw [s01]; exact n94) (by omega)
        have e84 : ro 2001 - 84 = 10 := rfl
        rw [e84] at eC
        rw [eC2, eC, eD]
        refine ⟨x1, ?_, fun n' s' a b => ?_, Les_t G3 (Les_t o3 x4), fun t => ?_⟩
        · rw [x2 n i hn vi (by omega), o2 n i hn vi, if_neg (fun t => f5 t.2.symm), G2 n i hn vi, if_pos ⟨rfl, rfl⟩]
        · by_cases t : n' = n ∧ s' = 2001
          · rw [t.1, t.2]
            rcases x3 with y | y
            · exact Or.inl (by rw [y, s01, G2 n 2001 hn (by unfold vs; omega), if_neg (by omega)])
            · exact Or.inr ⟨rfl, y, Or.inr (by omega)⟩
          · rw [x2 n' s' a b t, o2 n' s' a b]
            by_cases t2 : n' = n ∧ s' = pa i
            · rw [if_pos t2]
              exact Or.inr ⟨t2.1, rfl, Or.inr (by rw [t2.2]; exact f3)⟩
            · rw [if_neg t2, G2 n' s' a b]
              by_cases t3 : n' = n ∧ s' = i
              · rw [if_pos t3]
                exact Or.inr ⟨t3.1, rfl, Or.inl t3.2⟩
              · rw [if_neg t3]
                exact Or.inl rfl
        · have a1 := (TF_de (tx t) f2 o2).2 rp
          rw [epp] at a1
          exact (x5 a1).1 rfl
      · rw [if_neg q, if_neg (fun t => q (ee.mp t))]
        refine ⟨G1, by rw [G2 n i hn vi, if_pos ⟨rfl, rfl⟩], fun n' s' a b => ?_, G3, fun t => ?_⟩
        · rw [G2 n' s' a b]
          by_cases t3 : n' = n ∧ s' = i
          · rw [if_pos t3]
            exact Or.inr ⟨t3.1, rfl, Or.inl t3.2⟩
          · rw [if_neg t3]
            exact Or.inl rfl
        · intro n' s' a b c e
          by_cases t2 : n' = n ∧ s' = pa i
          · rw [t2.1, t2.2]
            refine Classical.byContradiction (fun t3 => q (emp_iff.mpr (fun k hk => ?_)))
            have := pt_slo G1.ti v1 v2 (by rw [v3]; exact f3) hk
            rw [v3] at this
            rw [← this]
            exact Classical.byContradiction (fun t4 => t3 ⟨k, hk, t4⟩)
          · exact tx t n' s' a b c t2 e
end SRK
