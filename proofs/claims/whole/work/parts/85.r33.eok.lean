/-! ===== PURE: what the reference asks for, where blocks are got ===== -/
section EOK
variable {bi : Nat → Nat} {w w' : Nat → Nat × Nat} {C X A B U : tS} {t n m k d r x i a l v : Nat} {me : Bool}
theorem get_36 {j : Nat} (h0 : j ≠ 6080 + r * 274) (h1 : j ≠ 6080 + r * 274 + 1) : getA A r me 36 j = A 36 j := by
  unfold getA
  rw [up2_o (by decide), fl_row (by decide)]
  cases me with
  | true => rw [cond_true, up2_o (by decide), up2_o (by decide), up2_j h1, up2_j h0, up2_o (by decide)]
  | false => rw [cond_false, up2_o (by decide), up2_j h1, up2_j h0, up2_o (by decide)]
theorem get_nd (hn : n < 64) (hi : i < 95) : nd (getA A r me) n i = nd A n i := get_36 (by omega) (by omega)
theorem get_lf (hn : n < 64) (hi : i < 1064) : leafA (getA A r me) n i = leafA A n i := by
  unfold leafA
  rw [get_nd hn (by omega), get_nd hn (by omega)]
  by_cases c : i < 40
  · rw [if_pos c, if_pos c]
  · rw [if_neg c, if_neg c]
    by_cases c2 : nd A n 94 = 0
    · rw [if_pos c2, if_pos c2]
    · rw [if_neg c2, if_neg c2]
      exact get_36 (by omega) (by omega)
/-- the steps of ensure -/
theorem en_ok (h : SR bi w C A) (hn : n < 64) (hkd : nd A n 0 = 1 ∨ nd A n 0 = 2) (hi : i < 1064) (hc : hasA A n i = 0) (hf : obN C n i ≤ fre A) (h34 : A 35 34 + 3 < 1000000) :
    0 < fre A ∧ (40 ≤ i → 0 < fre (ens1 A n i)) ∧ ensOk (ens2 (ens1 A n i) n i) n i ∧ 5 + ec1 A n i + ec2 (ens1 A n i) n i + ec3 (ens2 (ens1 A n i) n i) n i = 5 * obN C n i := by
  have h3 : nd A n 0 ≠ 3 := by omega
  obtain ⟨p1, p2, p3, p4⟩ := pt_c h.ok h.ti h.mr hn h3 hi
  have f0 : 0 < fre A := by
    have : 1 ≤ obN C n i := by
      unfold obN
      omega
    omega
  refine ⟨f0, fun q => ?_, ?_⟩
  · have x1 : ens1 A n i = A := by
      unfold ens1
      rw [if_neg (by omega)]
    rw [x1]
    exact f0
  by_cases d : i < 8
  · have x1 : ens1 A n i = A := by unfold ens1; rw [if_neg (by omega)]
    have x2 : ens2 A n i = A := by unfold ens2; rw [if_neg (by omega)]
    have x3 : ens3 A n i = A := by unfold ens3; rw [if_neg (by omega)]
    have on : obN C n i = 1 := by unfold obN; rw [if_neg (by omega), if_neg (by omega)]
    have c1 : ec1 A n i = 0 := by unfold ec1; rw [if_neg (by omega)]
    have c2 : ec2 A n i = 0 := by unfold ec2; rw [if_neg (by omega)]
    have c3 : ec3 A n i = 0 := by unfold ec3; rw [if_neg (by omega)]
    rw [x1, x2, c1, c2, c3, on]
    unfold ensOk
    rw [x3]
    exact ⟨⟨fun q => by omega, f0, fun q => by omega⟩, rfl⟩
  · by_cases d2 : i < 40
    · have s93 : slo A n 2000 = nd A n 93 := rfl
      have t9 : tbC C n i = pv bi A (nd A n 93) := by unfold tbC; rw [if_pos d2]; exact p3
      have x1 : ens1 A n i = stA A n 2000 true := by
        unfold ens1 stA
        rw [s93]
        by_cases q : nd A n 93 = 0
        · rw [if_pos ⟨by omega, d2, q⟩, if_pos q]
          exact att_r (s := 2000) hn rfl
        · rw [if_neg (fun z => q z.2.2), if_neg q]
      have y1 : ob1T C n i = C := by unfold ob1T; rw [if_neg (by omega)]
      have on : obN C n i = (if slo A n 2000 = 0 then 1 else 0) + 1 := by
        unfold obN
        rw [y1, if_neg (by omega), t9, s93]
        by_cases q : nd A n 93 = 0
        · rw [if_pos ⟨by omega, pv_0.mpr q⟩, if_pos q]
        · rw [if_neg (fun z => q (pv_0.mp z.2)), if_neg q]
      rw [on] at hf
      obtain ⟨bi1, w1, g1, g2, g3, g4, g5, g6⟩ := st_all (me := true) (s := 2000) h (fun _ => rfl) hn hkd (by unfold vs; omega) (fun q => by cases q) (fun q => f0) (by omega)
      have x2 : ens2 (stA A n 2000 true) n i = stA A n 2000 true := by unfold ens2; rw [if_neg (by omega)]
      have x3 : ens3 (stA A n 2000 true) n i = stA A n 2000 true := by unfold ens3; rw [if_neg (by omega)]
      have b1 := g6.1
      have c1 : ec1 A n i = 5 * (if slo A n 2000 = 0 then 1 else 0) := by
        unfold ec1
        rw [s93]
        by_cases q : nd A n 93 = 0
        · rw [if_pos ⟨by omega, d2, q⟩, if_pos q]
        · rw [if_neg (fun z => q z.2.2), if_neg q]
      have c2 : ec2 (stA A n 2000 true) n i = 0 := by unfold ec2; rw [if_neg (by omega)]
      have c3 : ec3 (stA A n 2000 true) n i = 0 := by unfold ec3; rw [if_neg (by omega)]
      have lf : leafA (stA A n 2000 true) n i = slo (stA A n 2000 true) n 2000 := by
        unfold leafA
        rw [if_pos d2]
        rfl
      rw [x1, x2, c1, c2, c3, on]
      unfold ensOk
      rw [x3, get_lf hn hi, lf]
      exact ⟨⟨fun q => by omega, by omega, fun _ => ⟨rfl, g4⟩⟩, by omega⟩
    · have ep : pa i = 2100 + (i - 40) / 32 := by unfold pa; rw [if_neg (by omega), if_neg d2]
      have vp : vs (pa i) := by rw [ep]; unfold vs; omega
      have rp : rs (pa i) = false := by rw [ep]; exact decide_eq_false (by omega)
      have epp : pa (pa i) = 2001 := by rw [ep]; unfold pa; rw [if_pos (by omega)]
      have ekp : kx (pa i) = (i - 40) / 32 := by rw [ep]; unfold kx; rw [if_pos (by omega)]; omega
      have s94 : ∀ (Z : tS), slo Z n 2001 = nd Z n 94 := fun _ => rfl
      have x1 : ens1 A n i = A := by unfold ens1; rw [if_neg (by omega)]
      have x2 : ens2 A n i = stA A n 2001 true := by
        unfold ens2 stA
        rw [s94]
        by_cases q : nd A n 94 = 0
        · rw [if_pos ⟨by omega, q⟩, if_pos q]
          exact att_r (s := 2001) hn rfl
        · rw [if_neg (fun z => q z.2), if_neg q]
      have y1 : ob1T C n i = stC C A n 2001 true := by
        unfold ob1T stC
        rw [s94, p4]
        by_cases q : nd A n 94 = 0
        · rw [if_pos ⟨by omega, pv_0.mpr q⟩, if_pos q]
          exact atC_r (s := 2001) rfl
        · rw [if_neg (fun z => q (pv_0.mp z.2)), if_neg q]
      have on1 : (if 40 ≤ i ∧ nwC C n 10 = 0 then 1 else 0) = (if slo A n 2001 = 0 then 1 else 0) := by
        rw [s94, p4]
        by_cases q : nd A n 94 = 0
        · rw [if_pos ⟨by omega, pv_0.mpr q⟩, if_pos q]
        · rw [if_neg (fun z => q (pv_0.mp z.2)), if_neg q]
      obtain ⟨bi1, w1, g1, g2, g3, g4, g5, g6⟩ := st_all (me := true) (s := 2001) h (fun _ => rfl) hn hkd (by unfold vs; omega) (fun q => by cases q) (fun _ => f0) (by omega)
      have ons : obN C n i = (if slo A n 2001 = 0 then 1 else 0) + (if 8 ≤ i ∧ tbC (stC C A n 2001 true) n i = 0 then 1 else 0) + 1 := by
        unfold obN
        rw [on1, y1]
      have c1 : ec1 A n i = 0 := by unfold ec1; rw [if_neg (by omega)]
      have c2 : ec2 A n i = 5 * (if slo A n 2001 = 0 then 1 else 0) := by
        unfold ec2
        rw [s94]
        by_cases q : nd A n 94 = 0
        · rw [if_pos ⟨by omega, q⟩, if_pos q]
        · rw [if_neg (fun z => q z.2), if_neg q]
      rw [x1, x2, c1, c2]
      generalize hA1 : stA A n 2001 true = A1 at *
      generalize hC1 : stC C A n 2001 true = C1 at *
      have k1 : nd A1 n 0 = nd A n 0 := g2.2.2 n 0 hn (by omega)
      obtain ⟨-, r2, r3, r4⟩ := pt_c g1.ok g1.ti g1.mr hn (show nd A1 n 0 ≠ 3 by omega) hi
      have el := lf_slo (A := A1) (n := n) (i := i) (by omega) hi
      have b1 := g6.1
      have b2 := g6.2.2.1
      have b3 : (if slo A n 2001 = 0 then 1 else 0) ≤ 1 := by split <;> omega
      have x3 : ens3 A1 n i = stA A1 n (pa i) true := by
        unfold ens3 stA
        rw [el]
        by_cases q : leafA A1 n i = 0
        · rw [if_pos ⟨by omega, q⟩, if_pos q]
          exact att_n rp (by rw [epp]; rfl) ekp.symm
        · rw [if_neg (fun z => q z.2), if_neg q]
      have tb0 : tbC C1 n i = 0 ↔ slo A1 n (pa i) = 0 := by rw [r2 (by omega), ← el]; exact pv_0
      have on2 : (if 8 ≤ i ∧ tbC C1 n i = 0 then 1 else 0) = (if slo A1 n (pa i) = 0 then 1 else 0) := by
        by_cases q : slo A1 n (pa i) = 0
        · rw [if_pos ⟨by omega, tb0.mpr q⟩, if_pos q]
        · rw [if_neg (fun y => q (tb0.mp y.2)), if_neg q]
      have c3 : ec3 A1 n i = 5 * (if slo A1 n (pa i) = 0 then 1 else 0) := by
        unfold ec3
        rw [el]
        by_cases q : leafA A1 n i = 0
        · rw [if_pos ⟨by omega, q⟩, if_pos q]
        · rw [if_neg (fun z => q z.2), if_neg q]
      rw [ons, on2] at hf
      rw [c3, ons, on2]
      obtain ⟨bi2, w2, G1, G2, G3, G4, G5, G6⟩ := st_all (me := true) (s := pa i) g1 (fun _ => rfl) hn (by omega) vp (fun _ => by rw [epp]; exact g4) (fun q => by rw [if_pos q] at hf; omega) (by omega)
      have c1 := G6.1
      have el2 := lf_slo (A := stA A1 n (pa i) true) (n := n) (i := i) (by omega) hi
      unfold ensOk
      rw [x3, get_lf hn hi, ← el2]
      exact ⟨⟨fun _ q => ⟨by omega, get_nd hn (by omega), g4⟩, by omega, fun _ => ⟨rfl, G4⟩⟩, by omega⟩
theorem SR_50 (h : SR bi w C A) : SR bi w (up2 C 19 n 1) (up2 A 50 n 1) := SR_chg h ⟨fun q => by omega, fun q => by omega⟩
theorem u50 : fre (up2 A 50 n 1) = fre A ∧ (∀ d i, hasA (up2 A 50 n 1) d i = hasA A d i) ∧ (∀ d i, nd (up2 A 50 n 1) d i = nd A d i) ∧ up2 A 50 n 1 35 34 = A 35 34 := by
  refine ⟨?_, fun d i => ?_, fun d i => nd_50, up2_o (by decide)⟩
  · unfold fre frA
    rw [up2_rown (show (36 : Nat) ≠ 50 by decide), up2_o (by decide), up2_rown (show (49 : Nat) ≠ 50 by decide)]
  · unfold hasA leafA pt nd
    rw [up2_rown (show (36 : Nat) ≠ 50 by decide)]
theorem nee_50 {k m : Nat} : nee (up2 A 50 n 1) d k m = nee A d k m := (nee_ptr (fun i _ _ => nd_50) (fun r k => by
  unfold pt
  rw [up2_o (by decide)])).2 k m
theorem ob_nee (h : SR bi w C A) (hn : n < 64) (hkd : nd A n 0 = 1 ∨ nd A n 0 = 2) (hi : i < 1064) (hc : hasA A n i = 0) : obN C n i ≤ nee A n i i := by
  have ne := ne_eq (fr := i) (to := i) h hn (by omega) hi (Nat.le_refl _)
  rw [show i + 1 - i = 1 by omega] at ne
  rw [← ne]
  exact ob_ne h hn (by omega) hi hc
theorem enP_ok (h : SR bi w C A) (hn : n < 64) (hkd : nd A n 0 = 1 ∨ nd A n 0 = 2) (hi : i < 1064) (hf : hasA A n i = 0 → nee A n i i ≤ fre A) (h34 : A 35 34 + 3 < 1000000) : enP A n i ∧ ensC A n i ≤ 5 * nee A n i i := by
  obtain ⟨u1, u2, u3, u4⟩ := u50 (A := A) (n := n)
  have S := SR_50 (n := n) h
  have ok : hasA A n i = 0 → _ := fun c => en_ok (i := i) S hn (by rw [u3]; exact hkd) hi (by rw [u2]; exact c) (by
    have := ob_nee (i := i) S hn (by rw [u3]; exact hkd) hi (by rw [u2]; exact c)
    rw [nee_50] at this
    rw [u1]
    have := hf c
    omega) (by rw [u4]; exact h34)
  refine ⟨⟨okS_of h (by omega), h34, fun c _ _ _ => (ok c).1, fun c q _ => (ok c).2.1 q, fun c => (ok c).2.2.1⟩, ?_⟩
  unfold ensC
  by_cases c : hasA A n i = 0
  · rw [if_neg (fun q => q c), (ok c).2.2.2]
    have := ob_nee (i := i) S hn (by rw [u3]; exact hkd) hi (by rw [u2]; exact c)
    rw [nee_50] at this
    omega
  · rw [if_pos c]
    exact Nat.zero_le _
theorem ens_35 (hn : n < 64) (hi : i < 1064) : (∀ q, q ≠ 34 → ensA A n i 35 q = A 35 q) ∧ ensA A n i 67 = A 67 := by
  have kp := KP_ens (A := A) hn hi
  exact ⟨kp.2.2.1, kp.2.1 67 (by decide) (by decide) (by omega)⟩
/-- what addEntry asks for -/
theorem ae_ok (h : SR bi w C A) (z1 : nd A d 1 % 256 = 0) (z2 : ∀ i, i < nd A d 1 / 256 → hasA A d i ≠ 0) (z3 : ∀ i, i < 1064 → nd A d 1 ≤ 256 * i → hasA A d i = 0) (hd : d < 64) (h2 : nd A d 0 = 2) (hz : nd A d 1 / 256 < 1064) (t1 : ffA A d / 8 < 1063) (hf : ffA A d = eAll A d → nee A d (ffA A d / 8) (ffA A d / 8) ≤ fre A) (h34 : A 35 34 + 6 < 1000000) : aeOk A d := by
  have le := ff_le (A := A) (d := d)
  have h0 : ffA A d = eAll A d → hasA A d (ffA A d / 8) = 0 := fun c => z3 _ (by omega) (by unfold eAll at c; omega)
  have e1 : ffA A d = eAll A d → _ := fun c => (enP_ok (i := ffA A d / 8) h hd (Or.inr h2) (by omega) (fun _ => hf c) (by omega)).1
  have en : ffA A d = eAll A d → _ := fun c => SR_ens (i := ffA A d / 8) h hd (Or.inr h2) (by omega) (fun y => Nat.le_trans (ob_nee h hd (Or.inr h2) (by omega) y) (hf c)) (by omega)
  obtain ⟨k1, k2⟩ := ens_35 (A := A) (n := d) (i := ffA A d / 8) hd (by omega)
  have os := okS_of h (by omega)
  refine ⟨os, by omega, ⟨hd, hz, z2⟩, t1, fun c a b e => (e1 c).2.2.1 (h0 c) a b e, fun c a b => (e1 c).2.2.2.1 (h0 c) a b, fun c => (e1 c).2.2.2.2 (h0 c), ?_, ?_, ?_⟩
  · unfold add1
    by_cases c : ffA A d = eAll A d
    · rw [if_pos c]
      obtain ⟨bi', w', g1, g2, g3, g4, g5, g6⟩ := en c
      obtain ⟨r1, r2, r3, r4, r5⟩ := setN_r (A := ensA A d (ffA A d / 8)) (n := d) (v := 256 * (ffA A d / 8 + 1)) (x := 1) hd (by omega) (by omega)
      rw [← hs_slo (by omega), r5 d _ hd (Or.inl (by omega))]
      exact g3
    · rw [if_neg c]
      exact z2 _ (by unfold eAll at le c; omega)
  · unfold add1
    by_cases c : ffA A d = eAll A d
    · rw [if_pos c]
      obtain ⟨bi', w', g1, g2, g3, g4, g5, g6⟩ := en c
      have q34 := g6.2.2.1
      have : (if hasA A d (ffA A d / 8) = 0 then obN C d (ffA A d / 8) else 0) ≤ 3 := by
        split
        · unfold obN
          split <;> split <;> omega
        · omega
      unfold okS
      rw [setN_o (by decide) (by decide), setN_o (by decide) (by decide), setN_o (by decide) (by decide), k1 6 (by decide), k1 7 (by decide)]
      exact ⟨os.1, os.2.1, by omega⟩
    · rw [if_neg c]
      exact os
  · unfold add1
    by_cases c : ffA A d = eAll A d
    · rw [if_pos c]
      funext j
      rw [setN_o (by decide) (by decide), k2]
    · rw [if_neg c]
end EOK
