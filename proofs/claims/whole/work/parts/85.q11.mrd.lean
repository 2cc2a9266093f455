/-! ===== PURE: a block taken from its place: META's words; bytes of files ===== -/
section MRD
variable {bi : Nat → Nat} {w : Nat → Nat × Nat} {C A B : tS} {W V : Nat → Nat} {n s x r0 u v g b : Nat} {z : Bool}
/-- a word of a block that is no table stays -/
theorem pw_no (hT : TI w A) (hn : n < 64) (hv : vs s) (hp : rs s = false → slo A n (pa s) ≠ 0) {r k : Nat} (h : us A r → (w r).2 < 2000) : ¬ (rs s = false ∧ r = slo A n (pa s) - 1 ∧ k = kx s) := by
  intro q
  obtain ⟨f1, f2, f3, f4, f5⟩ := slo_n (A := A) (n := n) hv q.1
  have hp := hp q.1
  obtain ⟨y, hy⟩ : ∃ y, slo A n (pa s) = y + 1 := ⟨slo A n (pa s) - 1, by omega⟩
  have u := hT.2.1 n (pa s) y hn f2 hy
  rw [show y = r by omega] at u
  have := h u.2.1
  rw [u.2.2] at this
  have : pa s < 2000 := this
  omega
theorem MR_det (hM : MR bi w W A) (hT : TI w A) (hO : okT A) (hB : ptB A B n s 0 r0 0 (se A r0)) (hn : n < 64) (hv : vs s) (h0 : slo A n s = r0 + 1) (hV : pW A W V n s 0 r0 0 false) : MR bi w V B := by
  obtain ⟨m1, m2, m3, m4⟩ := hM
  obtain ⟨hr2, hu, hw⟩ := hT.2.1 n s r0 hn hv h0
  have hkd := (hT.1 r0 hr2 hu).2.2.1
  rw [hw] at hkd
  have hkd : nd A n 0 = 1 ∨ nd A n 0 = 2 := hkd
  have hp : rs s = false → slo A n (pa s) ≠ 0 := by
    intro c q
    have := (slo_n (A := A) (n := n) hv c).1
    rw [if_pos q] at this
    omega
  have pvO : ∀ y, pv bi B y = pv bi A y := fun y => by
    unfold pv
    rw [pf_se hB hn hv]
    by_cases c : y - 1 = r0
    · rw [if_pos c, c]
    · rw [if_neg c]
  refine ⟨fun j hj => ?_, fun r hr => ?_, fun n' hn' => ?_, fun r hr hur => ?_⟩
  · rw [pw_lt hV (Or.inr trivial) (by omega) hn hv, if_neg (by omega)]
    exact m1 j hj
  · rw [pw_lt hV (Or.inr trivial) (by omega) hn hv, pf_us hB hn hv]
    have o := m2 r hr
    by_cases c : 32 + r / 64 = 32 + r0 / 64
    · rw [if_pos c]
      by_cases d : r = r0
      · rw [if_pos d, if_neg (fun q => q.2 rfl), d]
        exact setF_same (d := 1) (by decide)
      · rw [if_neg d]
        have : (setF (W (32 + r / 64)) (r0 % 64) 1 0) / 2 ^ (r % 64) % 2 ^ 1 = W (32 + r / 64) / 2 ^ (r % 64) % 2 ^ 1 := setF_other (by decide) (by omega)
        exact this.trans o
    · rw [if_neg c, if_neg (show ¬ r = r0 from fun e => c (by rw [e]))]
      exact o
  · obtain ⟨a1, a2, a3, a4⟩ := m3 n' hn'
    have lo : ∀ i, i < 85 → nd B n' i = nd A n' i := fun i hi => pf_lo hB hn hv hn' hi
    have wd : ∀ i, i < 16 → V (64 + n' * 16 + i) = if rs s = true ∧ n' = n ∧ i = ro s - 84 then 0 else W (64 + n' * 16 + i) := fun i hi => pw_nd hV hn hr2 hn' hi
    unfold NW
    rw [lo 0 (by omega), lo 1 (by omega), lo 2 (by omega), lo 3 (by omega), lo 4 (by omega)]
    refine ⟨?_, fun c i hi => ?_, fun c i hi => ?_, fun c i hi => ?_⟩
    · have e0 := wd 0 (by omega)
      rw [if_neg (fun q => by have := ro_lt q.1; omega)] at e0
      rw [show 64 + n' * 16 = 64 + n' * 16 + 0 from rfl, e0]
      exact a1
    · have b4 := (nd_k hO hn').2.2.2.2
      rw [lo (5 + i) (by omega), ← a2 c i hi]
      refine oW_e ?_ rfl
      have e0 := wd (1 + i / 8) (by omega)
      rw [if_neg (fun q => by rw [q.2.1] at c; omega)] at e0
      rw [show (2 + n' / 2) * 32 + ((n' % 2 * 16 + 1) * 8 + i) / 8 = 64 + n' * 16 + (1 + i / 8) by omega]
      exact e0
    · rw [wd (1 + i) (by omega), pf_nd hB hn' (by omega), pvO]
      cases cr : rs s with
      | true =>
        have l := ro_lt cr
        rw [lc_r cr]
        by_cases d : n' = n ∧ 1 + i = ro s - 84
        · rw [if_pos ⟨rfl, d⟩, if_pos (by omega)]
          rfl
        · rw [if_neg (fun q => d q.2), if_neg (by omega)]
          exact a3 c i hi
      | false =>
        rw [lc_n cr, if_neg (fun q => by cases q.1), if_neg (by omega)]
        exact a3 c i hi
    · rw [wd i hi]
      split
      · rfl
      · exact a4 c i hi
  · have bl : ∀ k, k < 32 → V ((34 + r) * 32 + k) = _ := fun k hk => pw_bl hV hn hv hr2 (r := r) hk
    have e : r ≠ r0 := by
      intro e
      unfold us at hur
      rw [pf_us hB hn hv, if_pos e] at hur
      exact hur rfl
    have hua : us A r := by
      unfold us at hur ⊢
      rwa [pf_us hB hn hv, if_neg e] at hur
    obtain ⟨b1, b2⟩ := m4 r hr hua
    refine ⟨fun c k hk => ?_, fun c d k hk2 => ?_⟩
    · rw [bl k hk, pf_pt hB hk, pvO]
      have E : (rs s = false ∧ r = slo A n (pa s) - 1 ∧ k = kx s) ↔ 6080 + r * 274 + (2 + k) = lcA A n s := by
        constructor
        · intro q
          rw [lc_n q.1, ← q.2.1, ← q.2.2]
        · intro q
          have t := pf_tb hT hn hv hp hk q
          rw [lc_n t.1] at q
          have l := (slo_n (A := A) (n := n) hv t.1).2.2.2.1
          exact ⟨t.1, by omega, t.2.2.2.2.2⟩
      by_cases q : 6080 + r * 274 + (2 + k) = lcA A n s
      · rw [if_pos (E.mpr q), if_pos q]
        rfl
      · rw [if_neg (fun y => q (E.mp y)), if_neg q, if_neg (fun y => by cases y.1)]
        exact b1 c k hk
    · rw [pf_lo hB hn hv (hT.1 r hr hua).2.1 (by omega)] at d
      refine EW_o hk2 (b2 c d k hk2) (fun i hi => pf_eZ hB hn hv hk2 hi) (by have := (eZ_lt hO (r := r) hk2).2.1; omega) (fun i hi => ?_)
      rw [bl i hi, if_neg (pw_no hT hn hv hp (fun _ => c)), if_neg (fun y => by cases y.1)]
theorem FB_att (hF : FB w W A) (hT : TI w A) (hB : ptB A B n s (r0 + 1) r0 1 v) (hn : n < 64) (hv : vs s) (hp : rs s = false → slo A n (pa s) ≠ 0) (hr2 : r0 < 2000) (hu : ¬ us A r0) (hV : pW A W V n s g r0 1 true) (h47 : ∀ q, B 47 q = if 256 * r0 ≤ q ∧ q < 256 * r0 + 256 then 0 else A 47 q) : FB (upW2 w r0 (n, s)) V B := by
  intro r hr hur h2 h3 j hj
  have ws : upW2 w r0 (n, s) r0 = (n, s) := by unfold upW2; rw [if_pos rfl]
  have wo : ∀ r, r ≠ r0 → upW2 w r0 (n, s) r = w r := fun r q => by unfold upW2; rw [if_neg q]
  have bl := pw_bl hV hn hv hr2 (r := r) (k := j / 8) (by omega)
  show by8 (V ((34 + r) * 32 + j / 8)) (j % 8) = B 47 (256 * r + j)
  by_cases e : r = r0
  · subst e
    rw [bl, if_neg (pw_no hT hn hv hp (fun q => absurd q hu)), if_pos ⟨rfl, rfl⟩, h47, if_pos (by omega)]
    unfold by8
    simp
  · have hua : us A r := by
      unfold us at hur ⊢
      rwa [pf_us hB hn hv, if_neg e] at hur
    rw [wo r e] at h2 h3
    rw [pf_lo hB hn hv (hT.1 r hr hua).2.1 (by omega)] at h3
    rw [bl, if_neg (pw_no hT hn hv hp (fun _ => h2)), if_neg (fun q => e q.2), h47, if_neg (by omega)]
    exact hF r hr hua h2 h3 j hj
theorem FB_det (hF : FB w W A) (hT : TI w A) (hB : ptB A B n s 0 r0 0 (se A r0)) (hn : n < 64) (hv : vs s) (h0 : slo A n s = r0 + 1) (hV : pW A W V n s 0 r0 0 false) (h47 : B 47 = A 47) : FB w V B := by
  obtain ⟨hr2, hu, hw⟩ := hT.2.1 n s r0 hn hv h0
  have hp : rs s = false → slo A n (pa s) ≠ 0 := by
    intro c q
    have := (slo_n (A := A) (n := n) hv c).1
    rw [if_pos q] at this
    omega
  intro r hr hur h2 h3 j hj
  have bl := pw_bl hV hn hv hr2 (r := r) (k := j / 8) (by omega)
  show by8 (V ((34 + r) * 32 + j / 8)) (j % 8) = B 47 (256 * r + j)
  have e : r ≠ r0 := by
    intro e
    unfold us at hur
    rw [pf_us hB hn hv, if_pos e] at hur
    exact hur rfl
  have hua : us A r := by
    unfold us at hur ⊢
    rwa [pf_us hB hn hv, if_neg e] at hur
  rw [pf_lo hB hn hv (hT.1 r hr hua).2.1 (by omega)] at h3
  rw [bl, if_neg (pw_no hT hn hv hp (fun _ => h2)), if_neg (fun q => by cases q.1), h47]
  exact hF r hr hua h2 h3 j hj
end MRD
