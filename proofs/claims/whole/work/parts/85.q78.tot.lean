/-! ===== PURE: total, in both ===== -/
section TOC
variable {Φ : tPh} {b0 fu : Nat} {σ τ : tM} {bi sp : Nat → Nat} {w : Nat → Nat × Nat} {C C' X : tS} {D D' D'' : tD} {A B : tS} {J J' : tJ} {K n m k r b id e o un : Nat}
theorem cn_pl {p : Nat → Bool} : ∀ a k b, cn p k (a + b) = cn p k a + cn p (k + a) b
  | 0, k, b => by
    rw [Nat.zero_add, Nat.add_zero]
    show _ = 0 + _
    rw [Nat.zero_add]
  | a + 1, k, b => by
    rw [show a + 1 + b = (a + b) + 1 by omega]
    show (if p k then 1 else 0) + cn p (k + 1) (a + b) = (if p k then 1 else 0) + cn p (k + 1) a + cn p (k + (a + 1)) b
    rw [cn_pl a (k + 1) b, show k + 1 + a = k + (a + 1) by omega, Nat.add_assoc]
/-- the counts are the same -/
theorem tot_eq (h : SR bi w C A) : C 10 9 = cn (frA A) 0 (A 35 7) ∧ C 10 10 = rbA A ∧ C 10 13 = dbA A ∧ cn (fun n => kiC C n == 0) 0 64 = fnA A := by
  have zm := h.zm
  have rk := h.rk
  have e7 : C 10 7 - 34 = A 35 7 := by rw [zm.1.1]; omega
  refine ⟨?_, ?_, ?_, ?_⟩
  · rw [rk.2.1.1, e7]
    refine cn_sh 34 (A 35 7) 0 (fun r _ hr => ?_)
    rw [zm.2.1 r (by omega)]
    unfold frA
    by_cases c1 : A 36 (6080 + r * 274) = 0
    · rw [if_neg (fun q => q c1), c1]
      by_cases c2 : A 49 r = 0
      · rw [if_pos c2, c2]
        rfl
      · rw [if_neg c2]
        by_cases c3 : A 49 r = 1
        · rw [if_pos c3, c3]
          simp
        · have x1 : (A 49 r == 1) = false := by simpa using c3
          have x0 : (A 49 r == 0) = false := by simpa using c2
          rw [if_neg c3, x1, x0]
          rfl
    · rw [if_pos c1]
      simp [c1]
  · rw [rk.2.1.2.1, e7]
    unfold rbA
    refine cn_sh 34 (A 35 7) 0 (fun r _ hr => ?_)
    rw [zm.2.1 r (by omega)]
    by_cases c1 : A 36 (6080 + r * 274) = 0
    · rw [if_neg (fun q => q c1)]
      by_cases c2 : A 49 r = 0
      · rw [if_pos c2, c2]
        rfl
      · rw [if_neg c2]
        by_cases c3 : A 49 r = 1
        · rw [if_pos c3, c3]
          simp
        · rw [if_neg c3]
          have : 1 < A 49 r := by omega
          simp [c2, this]
    · rw [if_pos c1, (zm.2.2.1 r (by omega) c1).2.2]
      rfl
  · have hr := zm.1.2.2.2.1
    rw [rk.1.2.1.2.2, show 2034 = 34 + (A 35 7 + (2000 - A 35 7)) by omega, cn_pl, cn_pl, cn_all0 34 0 (fun i _ hi => by simp [zm.2.2.2.2.2.2.1 i (by omega)]), cn_all0 (2000 - A 35 7) _ (fun i hi _ => by simp [(rk.1.2.2 i (Or.inr (by rw [zm.1.1]; omega))).2.2]), Nat.zero_add, Nat.add_zero]
    unfold dbA
    rw [Nat.zero_add]
    refine cn_sh 34 (A 35 7) 0 (fun r _ hr => ?_)
    have z := zm.2.2.2.2.2.1 r (by omega)
    by_cases c : A 48 r = 0
    · rw [c, z.mpr c]
    · have c' : C 17 (34 + r) ≠ 0 := fun q => c (z.mp q)
      show (C 17 (34 + r) != 0) = (A 48 r != 0)
      rw [bne_iff_ne.mpr c', bne_iff_ne.mpr c]
  · unfold fnA
    refine cn_congr 64 0 (fun i _ hi => ?_)
    rw [(hd_c h.ok h.mr (n := i) (by omega)).1]
theorem fig0 (h : CA b0 σ C) {x : Nat} (hx : x < 5) : m_X0_figure b0 fu (b0 + 1) (nI x) σ = some (iz (if x = 0 then (if C 1 14 = 0 then 0 else 1) else if x = 1 then (C 1 10 : Int) else if x = 2 then (C 1 11 : Int) else if x = 3 then (C 1 12 : Int) else (C 1 13 : Int) - 1), σ) := by
  have L := h.lay
  have b14 := cb_1 h 14
  unfold m_X0_figure J_X0_figure_44
  simp only [ckC_1 L, cf_1_14 h, cf_1_10 h, cf_1_11 h, cf_1_12 h, cf_1_13 h]
  show grw σ (if nI x = nI 0 then (if nI (C 1 14) = nI 0 then _ else _) else if nI x = nI 1 then _ else if nI x = nI 2 then _ else if nI x = nI 3 then _ else _) = _
  rw [if_e (a := x) (b := 0) (by omega) (by omega), if_e (a := x) (b := 1) (by omega) (by omega), if_e (a := x) (b := 2) (by omega) (by omega), if_e (a := x) (b := 3) (by omega) (by omega), if_e (a := C 1 14) (b := 0) (by omega) (by omega)]
  by_cases c : x = 0
  · rw [if_pos c, if_pos c]
    by_cases c2 : C 1 14 = 0
    · rw [if_pos c2, if_pos c2]
      exact grw_same
    · rw [if_neg c2, if_neg c2]
      exact grw_same
  rw [if_neg c, if_neg c]
  by_cases c : x = 1
  · rw [if_pos c, if_pos c, iz_n]
    exact grw_same
  rw [if_neg c, if_neg c]
  by_cases c : x = 2
  · rw [if_pos c, if_pos c, iz_n]
    exact grw_same
  rw [if_neg c, if_neg c]
  by_cases c : x = 3
  · rw [if_pos c, if_pos c, iz_n]
    exact grw_same
  rw [if_neg c, if_neg c, iz_m1]
  exact grw_same
theorem fig1 (h : CA b0 σ C) {x : Nat} (hx : x ≤ 18) (h9 : C 20 9 ≤ C 20 8) : m_X1_figure b0 fu (b0 + 20) (nI x) σ = some (iz (if x = 12 then (C 20 12 : Int) else if x = 13 then (C 20 13 : Int) else if x = 14 then (C 20 14 : Int) else if x = 15 then (C 20 15 : Int) else if x = 16 then (C 20 16 : Int) else if x = 17 then ((C 20 8 - C 20 9 : Nat) : Int) else (C 20 10 : Int)), σ) := by
  have L := h.lay
  unfold m_X1_figure
  simp only [ckC_20 L, cf_20_12 h, cf_20_13 h, cf_20_14 h, cf_20_15 h, cf_20_16 h, cf_20_8 h, cf_20_9 h, cf_20_10 h]
  show grw σ (if nI x = nI 12 then _ else if nI x = nI 13 then _ else if nI x = nI 14 then _ else if nI x = nI 15 then _ else if nI x = nI 16 then _ else if nI x = nI 17 then _ else _) = _
  rw [if_e (a := x) (b := 12) (by omega) (by omega), if_e (a := x) (b := 13) (by omega) (by omega), if_e (a := x) (b := 14) (by omega) (by omega), if_e (a := x) (b := 15) (by omega) (by omega), if_e (a := x) (b := 16) (by omega) (by omega), if_e (a := x) (b := 17) (by omega) (by omega)]
  by_cases c : x = 12
  · rw [if_pos c, if_pos c, iz_n]
    exact grw_same
  rw [if_neg c, if_neg c]
  by_cases c : x = 13
  · rw [if_pos c, if_pos c, iz_n]
    exact grw_same
  rw [if_neg c, if_neg c]
  by_cases c : x = 14
  · rw [if_pos c, if_pos c, iz_n]
    exact grw_same
  rw [if_neg c, if_neg c]
  by_cases c : x = 15
  · rw [if_pos c, if_pos c, iz_n]
    exact grw_same
  rw [if_neg c, if_neg c]
  by_cases c : x = 16
  · rw [if_pos c, if_pos c, iz_n]
    exact grw_same
  rw [if_neg c, if_neg c]
  by_cases c : x = 17
  · rw [if_pos c, if_pos c, iz_n, nI_sb h9]
    exact grw_same
  rw [if_neg c, if_neg c, iz_n]
  exact grw_same
theorem fig5 (h : CA b0 σ C) (hc : ci C) {x : Nat} (hx : x ≤ 11) (h5 : 5 ≤ x) (h8 : x ≠ 8) : m_X5_figure b0 fu (b0 + 10) (nI x) σ = some (iz (if x = 5 then (C 10 9 : Int) else if x = 6 then (C 10 10 : Int) else if x = 7 then (C 10 13 : Int) else if x = 9 then (gpC C : Int) else if x = 10 then (C 10 11 : Int) else (C 10 12 : Int)), σ) := by
  have L := h.lay
  unfold m_X5_figure J_X5_figure_65
  simp only [ckC_10 L, cf_10_9 h, cf_10_10 h, cf_10_13 h, cf_10_11 h, cf_10_12 h, groupSize_c h hc, cll_some]
  show grw σ (if nI x = nI 5 then _ else if nI x = nI 6 then _ else if nI x = nI 7 then _ else if nI x = nI 8 then _ else if nI x = nI 9 then _ else if nI x = nI 10 then _ else _) = _
  rw [if_e (a := x) (b := 5) (by omega) (by omega), if_e (a := x) (b := 6) (by omega) (by omega), if_e (a := x) (b := 7) (by omega) (by omega), if_e (a := x) (b := 8) (by omega) (by omega), if_e (a := x) (b := 9) (by omega) (by omega), if_e (a := x) (b := 10) (by omega) (by omega)]
  by_cases c : x = 5
  · rw [if_pos c, if_pos c, iz_n]
    exact grw_same
  rw [if_neg c, if_neg c]
  by_cases c : x = 6
  · rw [if_pos c, if_pos c, iz_n]
    exact grw_same
  rw [if_neg c, if_neg c]
  by_cases c : x = 7
  · rw [if_pos c, if_pos c, iz_n]
    exact grw_same
  rw [if_neg c, if_neg c, if_neg h8]
  by_cases c : x = 9
  · rw [if_pos c, if_pos c, iz_n]
    exact grw_same
  rw [if_neg c, if_neg c]
  by_cases c : x = 10
  · rw [if_pos c, if_pos c, iz_n]
    exact grw_same
  rw [if_neg c, if_neg c, iz_n]
  exact grw_same
/-- total -/
theorem total_c (hΦ : goodT Φ) (hok : ∀ w A, Φ w A → okT A) (hu : 3000 ≤ fu) {x : Int32} (h : CM b0 σ C D) (hR : ST Φ bi sp w C D A J) :
    wp (FC b0) σ (m_X10_total b0 fu (b0 + 0) x σ) (fun v τ => NZ Φ b0 bi sp w D J v τ (toA x A J)) := by
  have L := h.lay
  have s1 := ST_scr hΦ hok hR (sC_0 (A := A) (v := 0))
  have h0 : up2 A 35 0 0 35 0 = 0 := up2_s A 35 0 0
  have e18 : up2 A 35 0 0 35 18 = A 35 18 := up2_j (by decide)
  obtain ⟨⟨r1, r2, r3, r4, r5, r6, r7⟩, -⟩ := (ST_co s1).1
  refine wp_grw (FC_good b0) ?_
  unfold J_X10_total_10 J_X10_total_78 toA
  rw [← e18]
  generalize up2 A 35 0 0 = A at *
  have ans : ∀ v, NZ Φ b0 bi sp w D J (iz v) σ (v, A) := fun v => ⟨rfl, h0, C, h, s1⟩
  by_cases c0 : x < 0
  · rw [if_pos c0, if_pos (Or.inl c0)]
    exact wp_ret ((FC_good b0).1 _) ⟨rfl, h0, C, h, s1⟩
  rw [if_neg c0]
  obtain ⟨m, hm, rfl⟩ := nI_of c0
  show wp (FC b0) σ (if nI m ≤ nI 18 then (if nI 5 ≤ nI m then _ else _) else _) _
  rw [if_l hm (by omega), if_l (by omega) hm, nI_cl hm]
  by_cases c1 : m ≤ 18
  · have n6 : ¬ (nI m < 0 ∨ (18 : Int32) < nI m) := fun r => by
      rcases r with r | r
      · exact c0 r
      · have := (nI_ltP (a := 18) (b := m) (by omega) hm).mp r
        omega
    rw [if_pos c1, if_neg n6]
    by_cases c5 : 5 ≤ m
    · rw [if_pos c5, ckC_0 L, osm_p (rfC_0_0 L), ckC_1 L, cf_1_14 h.ca, r7]
      rcases s1 with q | q
      · have on : A 35 18 = 1 := q.2.2.2.2.2.2.1
        obtain ⟨t1, t2, t3, t4⟩ := tot_eq q.2.1
        obtain ⟨g1, g2, g3, g4, g5, g6⟩ := gs_parts q.2.1
        have ge := gs_eq q.2.1
        obtain ⟨jf, -, jo, jg, j9, -⟩ := q.1.2.1
        obtain ⟨f1, f2, f3, f4, f5, f6, f7, f8⟩ := jf
        unfold JO at jo
        have ef : freA_ A J = A 35 6 - szL J.1 0 (A 35 28 - A 35 35) := by
          unfold freA_
          rw [jo.1, Nat.sub_self]
        rw [on, if_neg (by decide), if_neg (show ¬ ((1 : Nat) = 0 ∧ 5 ≤ m) from fun r => by omega)]
        show wp (FC b0) σ (if nI m = nI 8 then _ else if nI 12 ≤ nI m then _ else _) _
        rw [if_e hm (by omega), if_l (by omega) hm]
        unfold toN
        rw [if_neg (show ¬ m = 0 by omega), if_neg (show ¬ m = 1 by omega), if_neg (show ¬ m = 2 by omega), if_neg (show ¬ m = 3 by omega), if_neg (show ¬ m = 4 by omega)]
        by_cases c8 : m = 8
        · rw [if_pos c8, osm_p (rfC_0_2 L), ckC_18 L, countUnused_c h.ca (by omega), cll_some, t4, if_neg (show ¬ m = 5 by omega), if_neg (show ¬ m = 6 by omega), if_neg (show ¬ m = 7 by omega), if_pos c8, ← iz_n]
          exact wp_ret ((FC_good b0).1 _) (ans _)
        rw [if_neg c8]
        by_cases c12 : 12 ≤ m
        · rw [if_pos c12, osm_p (rfC_0_3 L), ckC_20 L, fig1 h.ca c1 (by rw [j9, f1]; exact jg.2.2.1), cll_some, if_neg (show ¬ m = 5 by omega), if_neg (show ¬ m = 6 by omega), if_neg (show ¬ m = 7 by omega), if_neg (show ¬ m = 8 by omega), if_neg (show ¬ m = 9 by omega), if_neg (show ¬ m = 10 by omega), if_neg (show ¬ m = 11 by omega), f4, f5, f6, f7, f8, f1, j9, f2, ef]
          exact wp_ret ((FC_good b0).1 _) (ans _)
        · rw [if_neg c12, osm_p (rfC_0_1 L), ckC_10 L, fig5 h.ca q.2.1.rk.1 (by omega) c5 c8, cll_some, if_neg c8, t1, t2, t3, ge, g5, g6]
          have e11 : (if m = 5 then (cn (frA A) 0 (A 35 7) : Int) else if m = 6 then (rbA A : Int) else if m = 7 then (dbA A : Int) else if m = 9 then (gsA A : Int) else if m = 10 then (tcA A : Int) else if m = 11 then (rcA A : Int) else if m = 12 then (A 35 28 : Int) else if m = 13 then (A 35 29 : Int) else if m = 14 then (A 35 30 : Int) else if m = 15 then (A 35 31 : Int) else if m = 16 then (A 35 32 : Int) else if m = 17 then (freA_ A J : Int) else (A 35 33 : Int)) = (if m = 5 then (cn (frA A) 0 (A 35 7) : Int) else if m = 6 then (rbA A : Int) else if m = 7 then (dbA A : Int) else if m = 9 then (gsA A : Int) else if m = 10 then (tcA A : Int) else (rcA A : Int)) := by
            generalize (gsA A : Int) = a1
            generalize (tcA A : Int) = a2
            generalize (rcA A : Int) = a3
            generalize (cn (frA A) 0 (A 35 7) : Int) = a4
            generalize (rbA A : Int) = a5
            generalize (dbA A : Int) = a6
            by_cases k5 : m = 5
            · rw [if_pos k5, if_pos k5]
            rw [if_neg k5, if_neg k5]
            by_cases k6 : m = 6
            · rw [if_pos k6, if_pos k6]
            rw [if_neg k6, if_neg k6]
            by_cases k7 : m = 7
            · rw [if_pos k7, if_pos k7]
            rw [if_neg k7, if_neg k7]
            by_cases k9 : m = 9
            · rw [if_pos k9, if_pos k9]
            rw [if_neg k9, if_neg k9]
            by_cases k10 : m = 10
            · rw [if_pos k10, if_pos k10]
            rw [if_neg k10, if_neg k10, if_pos (show m = 11 by omega)]
          rw [e11]
          exact wp_ret ((FC_good b0).1 _) (ans _)
      · have off : A 35 18 = 0 := q.2.1
        rw [off, if_pos (show nI 0 = 0 by decide), if_pos (show (0 : Nat) = 0 ∧ 5 ≤ m from ⟨rfl, c5⟩)]
        exact wp_ret ((FC_good b0).1 _) ⟨rfl, h0, C, h, Or.inr q⟩
    · rw [if_neg c5, if_neg (show ¬ (A 35 18 = 0 ∧ 5 ≤ m) from fun r => c5 r.2), ckC_0 L, osm_p (rfC_0_0 L), ckC_1 L, fig0 h.ca (by omega), cll_some, r7, r3, r4, r5, r6]
      have e4 : toN A J m = (if m = 0 then (if A 35 18 = 0 then 0 else 1) else if m = 1 then (A 35 16 : Int) else if m = 2 then (A 35 20 : Int) else if m = 3 then (A 35 21 : Int) else (A 35 19 : Int) - 1) := by
        unfold toN
        by_cases k0 : m = 0
        · rw [if_pos k0, if_pos k0]
        rw [if_neg k0, if_neg k0]
        by_cases k1 : m = 1
        · rw [if_pos k1, if_pos k1]
        rw [if_neg k1, if_neg k1]
        by_cases k2 : m = 2
        · rw [if_pos k2, if_pos k2]
        rw [if_neg k2, if_neg k2]
        by_cases k3 : m = 3
        · rw [if_pos k3, if_pos k3]
        rw [if_neg k3, if_neg k3, if_pos (show m = 4 by omega)]
      rw [← e4]
      exact wp_ret ((FC_good b0).1 _) (ans _)
  · have c3 : (18 : Int32) < nI m := (nI_ltP (a := 18) (b := m) (by omega) hm).mpr (by omega)
    rw [if_neg c1, if_pos (Or.inr c3)]
    exact wp_ret ((FC_good b0).1 _) ⟨rfl, h0, C, h, s1⟩
end TOC
