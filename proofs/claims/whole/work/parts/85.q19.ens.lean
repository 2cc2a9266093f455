/-! ===== PURE: ensure and obtain, in both: SR stays ===== -/
def stA (A : tS) (n s : Nat) (me : Bool) : tS := if slo A n s = 0 then atA A n s me else A
def stC (C A : tS) (n s : Nat) (me : Bool) : tS := if slo A n s = 0 then atC C A n s me else C
/-- at most k blocks fewer, serials and births more -/
def Gt (A B C X : tS) (k : Nat) : Prop := fre B + k = fre A ∧ A 35 34 ≤ B 35 34 ∧ B 35 34 ≤ A 35 34 + k ∧ C 10 15 ≤ X 10 15 ∧ X 10 15 ≤ C 10 15 + k ∧ ∀ q, q ≠ 34 → B 35 q = A 35 q
section SRH
variable {bi : Nat → Nat} {w : Nat → Nat × Nat} {C A B X : tS} {W V : Nat → Nat} {n s i : Nat} {me : Bool}
theorem Gt_t {D E : tS} {k m : Nat} (h1 : Gt A B C X k) (h2 : Gt B D X E m) : Gt A D C E (k + m) := by
  obtain ⟨a1, a2, a3, a4, a5, a6⟩ := h1
  obtain ⟨b1, b2, b3, b4, b5, b6⟩ := h2
  exact ⟨by omega, by omega, by omega, by omega, by omega, fun q hq => by rw [b6 q hq, a6 q hq]⟩
theorem st_all (h : SR bi w C A) (hme : (2000 ≤ s ∨ nd A n 0 = 2) → me = true) (hn : n < 64) (hkd : nd A n 0 = 1 ∨ nd A n 0 = 2) (hv : vs s) (hp : rs s = false → slo A n (pa s) ≠ 0) (hf : slo A n s = 0 → 0 < fre A) (h34 : A 35 34 + 1 < 1000000) :
    ∃ bi' w', SR bi' w' (stC C A n s me) (stA A n s me) ∧ Ext bi bi' w w' A (stA A n s me) ∧ (∀ n' s', n' < 64 → vs s' → ¬ (n' = n ∧ s' = s) → slo (stA A n s me) n' s' = slo A n' s') ∧ slo (stA A n s me) n s ≠ 0 ∧ (slo A n s ≠ 0 → slo (stA A n s me) n s = slo A n s) ∧ Gt A (stA A n s me) C (stC C A n s me) (if slo A n s = 0 then 1 else 0) := by
  unfold stA stC
  by_cases c : slo A n s = 0
  · rw [if_pos c, if_pos c, if_pos c]
    obtain ⟨bi', w', g1, g2, g3, g4, g5, g6, g7⟩ := at_all (me := me) h hme hn hkd hv hp c (hf c) h34
    refine ⟨bi', w', g1, g2, fun n' s' a b d => by rw [g3 n' s' a b, if_neg d], ?_, fun q => absurd c q, g4, by omega, by omega, by omega, by omega, g6⟩
    rw [g3 n s hn hv, if_pos ⟨rfl, rfl⟩]
    omega
  · rw [if_neg c, if_neg c, if_neg c]
    exact ⟨bi, w, h, Ext_r, fun _ _ _ _ _ => rfl, c, fun _ => rfl, rfl, Nat.le_refl _, Nat.le_refl _, Nat.le_refl _, Nat.le_refl _, fun _ _ => rfl⟩
theorem sl_50 {k v n' s' : Nat} : slo (up2 A 50 k v) n' s' = slo A n' s' := by
  unfold slo hasA leafA pt nd
  rw [up2_rown (show (36 : Nat) ≠ 50 by decide)]
theorem hs_slo (hi : i < 1064) : slo A n i = hasA A n i := by
  unfold slo
  rw [if_neg (by omega), if_neg (by omega), if_neg (by omega)]
theorem lf_slo (h8 : 8 ≤ i) (hi : i < 1064) : slo A n (pa i) = leafA A n i := by
  unfold pa
  rw [if_neg (by omega)]
  by_cases c : i < 40
  · rw [if_pos c]
    unfold leafA
    rw [if_pos c]
    rfl
  · rw [if_neg c]
    unfold slo leafA
    rw [if_neg (by omega), if_neg (by omega), if_pos (by omega), if_neg c, show 2100 + (i - 40) / 32 - 2100 = (i - 40) / 32 by omega]
/-- a node's words are no part of a new block -/
theorem gt_nw {j : Nat} (h : SR bi w C A) (hf : 0 < fre A) (hn : n < 64) (hj : j < 16) {n' : Nat} : nwC (gtC C n' me) n j = nwC C n j := by
  have hF := ff_is h.rk.1 h.rk.2.1 (by rw [fre_c h.rk.2.1 h.zm]; exact hf)
  have := (gt_rows (C := C) (n := n') (me := me) ⟨hF.1, hF.2.1⟩ (by have := h.zm.1.1; omega)).1 (64 + n * 16 + j)
  unfold nwC gtC
  rw [this, if_neg (by have := hF.1; omega), if_neg (by have := hF.1; have := hF.2.1; have := h.zm.1.1; have := h.zm.1.2.2.2.1; omega)]
theorem gt_tb {r k : Nat} (h : SR bi w C A) (hf : 0 < fre A) (hr : r < 2000) (hu : us A r) (hk : k < 32) {n' : Nat} : gtC C n' me 11 ((34 + r) * 32 + k) = C 11 ((34 + r) * 32 + k) := by
  have hF := ff_is h.rk.1 h.rk.2.1 (by rw [fre_c h.rk.2.1 h.zm]; exact hf)
  have := (gt_rows (C := C) (n := n') (me := me) ⟨hF.1, hF.2.1⟩ (by have := h.zm.1.1; omega)).1 ((34 + r) * 32 + k)
  have rlt := (h.ti.1 r hr hu).1
  have ne : 34 + r ≠ ffC C := by
    intro e
    have q := hF.2.2.1
    rw [← e, h.zm.2.1 r rlt] at q
    have : A 36 (6080 + r * 274) ≠ 0 := hu
    rw [if_pos this] at q
    omega
  unfold gtC
  rw [this, if_neg (by omega), if_neg (by have := hF.1; have := hF.2.1; have := h.zm.1.1; have := h.zm.1.2.2.2.1; omega)]
theorem SR_ens (h : SR bi w C A) (hn : n < 64) (hkd : nd A n 0 = 1 ∨ nd A n 0 = 2) (hi : i < 1064) (hf : hasA A n i = 0 → obN C n i ≤ fre A) (h34 : A 35 34 + 3 < 1000000) :
    ∃ bi' w', SR bi' w' (obT C n i) (ensA A n i) ∧ Ext bi bi' w w' A (ensA A n i) ∧ slo (ensA A n i) n i ≠ 0 ∧ (∀ n' s', n' < 64 → vs s' → slo A n' s' ≠ 0 → slo (ensA A n i) n' s' = slo A n' s') ∧
      (∀ n' s', n' < 64 → vs s' → slo A n' s' = 0 → slo (ensA A n i) n' s' ≠ 0 → n' = n ∧ (s' = i ∨ (rs i = false ∧ s' = pa i) ∨ (rs i = false ∧ rs (pa i) = false ∧ s' = pa (pa i)))) ∧ Gt A (ensA A n i) C (obT C n i) (if hasA A n i = 0 then obN C n i else 0) := by
  have h3 : nd A n 0 ≠ 3 := by omega
  obtain ⟨p1, p2, p3, p4⟩ := pt_c h.ok h.ti h.mr hn h3 hi
  have vi : vs i := Or.inl hi
  rw [ens_50]
  unfold obT
  by_cases c : hasA A n i = 0
  case neg =>
    rw [if_pos c, if_neg c, if_neg (show ¬ ptC C n i = 0 from fun q => c (pv_0.mp (p1 ▸ q)))]
    exact ⟨bi, w, h, Ext_r, by rw [hs_slo hi]; exact c, fun _ _ _ _ _ => rfl, fun n' s' _ _ a b => absurd a b, rfl, Nat.le_refl _, Nat.le_refl _, Nat.le_refl _, Nat.le_refl _, fun _ _ => rfl⟩
  rw [if_pos (show ptC C n i = 0 by rw [p1, c]; rfl), if_neg (show ¬ hasA A n i ≠ 0 from fun q => q c), if_pos c]
  have hf := hf c
  have si : slo A n i = 0 := by rw [hs_slo hi]; exact c
  -- the last step, from any state in which the table is there
  have last : ∀ (bi1 : Nat → Nat) (w1 : Nat → Nat × Nat) (C1 A1 : tS), SR bi1 w1 C1 A1 → (nd A1 n 0 = nd A n 0) → slo A1 n i = 0 → (rs i = false → slo A1 n (pa i) ≠ 0) → 0 < fre A1 → A1 35 34 + 1 < 1000000 →
      ens4 A1 n i = atA A1 n i (nd A1 n 0 == 2) ∧ ob3T C1 n i = up2 (atC C1 A1 n i (nd A1 n 0 == 2)) 19 n 1 := by
    intro bi1 w1 C1 A1 H k1 k2 k3 k4 k5
    have ki : kiC C1 n = nd A1 n 0 := (hd_c H.ok H.mr hn).1
    obtain ⟨-, q2, -, -⟩ := pt_c H.ok H.ti H.mr hn (show nd A1 n 0 ≠ 3 by omega) hi
    unfold ens4 ob3T spC
    rw [ki]
    by_cases d : i < 8
    · have hs : rs i = true := decide_eq_true (Or.inl d)
      have er : ro i = 85 + i := by unfold ro; rw [if_neg (by omega), if_neg (by omega)]
      rw [if_pos d, if_pos d, ← er, att_r hn hs]
      refine ⟨rfl, ?_⟩
      rw [← atC_r (A := A1) (me := nd A1 n 0 == 2) hs, er, show 85 + i - 84 = 1 + i by omega]
    · have hs : rs i = false := decide_eq_false (by omega)
      have e1 := lf_slo (A := A1) (n := n) (i := i) (by omega) hi
      have k3 := k3 hs
      obtain ⟨y, hy⟩ : ∃ y, slo A1 n (pa i) = y + 1 := ⟨slo A1 n (pa i) - 1, by omega⟩
      obtain ⟨f1, f2, f3, f4, f5⟩ := slo_n (A := A1) (n := n) vi hs
      have u := H.ti.2.1 n (pa i) y hn f2 hy
      have ylt := (H.ti.1 y u.1 u.2.1).1
      have ek : kx i = (i - 8) % 32 := by unfold kx; rw [if_neg (by omega)]; split <;> omega
      have ep : plA i = kx i := by rw [ek]; unfold plA; split <;> omega
      have et : tbC (gtC C1 n (nd A1 n 0 == 2)) n i = tbC C1 n i := by
        unfold tbC
        by_cases d2 : i < 40
        · rw [if_pos d2, if_pos d2, gt_nw H k4 hn (by omega)]
        · rw [if_neg d2, if_neg d2, gt_nw H k4 hn (by omega)]
          obtain ⟨-, -, -, t10⟩ := pt_c H.ok H.ti H.mr hn (show nd A1 n 0 ≠ 3 by omega) hi
          rw [t10]
          have n94 : nd A1 n 94 ≠ 0 := by
            intro q
            have e2 : leafA A1 n i = 0 := by unfold leafA; rw [if_neg d2, if_pos q]
            omega
          obtain ⟨z, hz⟩ : ∃ z, nd A1 n 94 = z + 1 := ⟨nd A1 n 94 - 1, by omega⟩
          have uz := H.ti.2.1 n 2001 z hn (by unfold vs; omega) (show nd A1 n 94 = z + 1 from hz)
          rw [hz, pv_mod (by omega), if_neg (by omega), show 33 + (z + 1) = 34 + z by omega]
          exact gt_tb H k4 uz.1 uz.2.1 (by omega)
      rw [if_neg d, if_neg d, att_n (s := i) (n := n) hs (by rw [e1]) ep]
      refine ⟨rfl, ?_⟩
      rw [et, q2 (by omega), ← e1, hy, pv_mod (by omega), if_neg (by omega), atC_n (A := A1) hs (by rw [hy]; omega) ek.symm (by rw [H.zm.1.1]; omega)]
  have fin : ∀ (bi1 : Nat → Nat) (w1 : Nat → Nat × Nat) (C1 A1 : tS), SR bi1 w1 C1 A1 → (nd A1 n 0 = nd A n 0) → slo A1 n i = 0 → (rs i = false → slo A1 n (pa i) ≠ 0) → 0 < fre A1 → A1 35 34 + 1 < 1000000 →
      ∃ bi' w', SR bi' w' (ob3T C1 n i) (up2 (ens4 A1 n i) 50 n 1) ∧ Ext bi1 bi' w1 w' A1 (up2 (ens4 A1 n i) 50 n 1) ∧ (∀ n' s', n' < 64 → vs s' → ¬ (n' = n ∧ s' = i) → slo (up2 (ens4 A1 n i) 50 n 1) n' s' = slo A1 n' s') ∧ slo (up2 (ens4 A1 n i) 50 n 1) n i ≠ 0 ∧ Gt A1 (up2 (ens4 A1 n i) 50 n 1) C1 (ob3T C1 n i) 1 := by
    intro bi1 w1 C1 A1 H k1 k2 k3 k4 k5
    obtain ⟨l1, l2⟩ := last bi1 w1 C1 A1 H k1 k2 k3 k4 k5
    obtain ⟨bi', w', g1, g2, g3, g4, g5, g6, g7⟩ := at_all (me := nd A1 n 0 == 2) H (fun q => by have e : nd A1 n 0 = 2 := (by omega); rw [e]; rfl) hn (by omega) vi k3 k2 k4 k5
    rw [l1, l2]
    have r36 : up2 (atA A1 n i (nd A1 n 0 == 2)) 50 n 1 36 = atA A1 n i (nd A1 n 0 == 2) 36 := up2_rown (by decide)
    have r35 : up2 (atA A1 n i (nd A1 n 0 == 2)) 50 n 1 35 = atA A1 n i (nd A1 n 0 == 2) 35 := up2_rown (by decide)
    have sl : ∀ n' s', slo (up2 (atA A1 n i (nd A1 n 0 == 2)) 50 n 1) n' s' = slo (atA A1 n i (nd A1 n 0 == 2)) n' s' := fun n' s' => sl_50
    have fe : fre (up2 (atA A1 n i (nd A1 n 0 == 2)) 50 n 1) = fre (atA A1 n i (nd A1 n 0 == 2)) := by
      unfold fre frA
      rw [r36, r35, up2_rown (show (49 : Nat) ≠ 50 by decide)]
    refine ⟨bi', w', SR_chg g1 ⟨fun q => by omega, fun q => by omega⟩, ⟨g2.1, fun r hr hur => ?_, fun n' j a b => ?_⟩, fun n' s' a b d => by rw [sl, g3 n' s' a b, if_neg d], ?_, by rw [fe]; exact g4, by rw [r35]; omega, by rw [r35]; omega, by rw [up2_o (by decide)]; omega, by rw [up2_o (by decide)]; omega, fun q hq => by rw [r35]; exact g6 q hq⟩
    · have := g2.2.1 r hr hur
      unfold us se at this ⊢
      rw [r36]
      exact this
    · rw [nd_50]
      exact g2.2.2 n' j a b
    · rw [sl, g3 n i hn vi, if_pos ⟨rfl, rfl⟩]
      omega
  by_cases d : i < 8
  · -- in the node
    have hs : rs i = true := decide_eq_true (Or.inl d)
    have x1 : ens1 A n i = A := by unfold ens1; rw [if_neg (by omega)]
    have x2 : ens2 A n i = A := by unfold ens2; rw [if_neg (by omega)]
    have x3 : ens3 A n i = A := by unfold ens3; rw [if_neg (by omega)]
    have y1 : ob1T C n i = C := by unfold ob1T; rw [if_neg (by omega)]
    have y2 : ob2T C n i = C := by unfold ob2T; rw [if_neg (by omega)]
    have on : obN C n i = 1 := by unfold obN; rw [if_neg (by omega), if_neg (by omega)]
    rw [x1, x2, x3, y1, y2, on]
    rw [on] at hf
    obtain ⟨bi', w', g1, g2, g3, g4, g5⟩ := fin bi w C A h rfl si (fun q => by rw [hs] at q; cases q) (by omega) (by omega)
    refine ⟨bi', w', g1, g2, g4, fun n' s' a b z => g3 n' s' a b (fun q => z (by rw [q.1, q.2]; exact si)), fun n' s' a b z z2 => ?_, g5⟩
    by_cases q : n' = n ∧ s' = i
    · exact ⟨q.1, Or.inl q.2⟩
    · rw [g3 n' s' a b q] at z2
      exact absurd z z2
  · have hs : rs i = false := decide_eq_false (by omega)
    by_cases d2 : i < 40
    · -- in the table
      have ep : pa i = 2000 := by unfold pa; rw [if_neg (by omega), if_pos d2]
      have s93 : slo A n 2000 = nd A n 93 := rfl
      have t9 : tbC C n i = pv bi A (nd A n 93) := by unfold tbC; rw [if_pos d2]; exact p3
      have x1 : ens1 A n i = stA A n 2000 true := by
        unfold ens1 stA
        rw [s93]
        by_cases q : nd A n 93 = 0
        · rw [if_pos ⟨by omega, d2, q⟩, if_pos q]
          exact att_r (s := 2000) hn rfl
        · rw [if_neg (fun z => q z.2.2), if_neg q]
      have y1 : ob1T C n i = C := by unfold ob1T; rw [if_neg (by omega)]
      have y2 : ob2T C n i = stC C A n 2000 true := by
        unfold ob2T stC
        rw [s93, t9]
        by_cases q : nd A n 93 = 0
        · rw [if_pos ⟨by omega, pv_0.mpr q⟩, if_pos d2, if_pos q]
          exact atC_r (s := 2000) rfl
        · rw [if_neg (fun z => q (pv_0.mp z.2)), if_neg q]
      have on : obN C n i = (if slo A n 2000 = 0 then 1 else 0) + 1 := by
        unfold obN
        rw [y1, if_neg (by omega), t9, s93]
        by_cases q : nd A n 93 = 0
        · rw [if_pos ⟨by omega, pv_0.mpr q⟩, if_pos q]
        · rw [if_neg (fun z => q (pv_0.mp z.2)), if_neg q]
      rw [on] at hf
      obtain ⟨bi1, w1, g1, g2, g3, g4, g5, g6⟩ := st_all (me := true) (s := 2000) h (fun _ => rfl) hn hkd (by unfold vs; omega) (fun q => by cases q) (fun q => by rw [if_pos q] at hf; omega) (by omega)
      have x2 : ens2 (stA A n 2000 true) n i = stA A n 2000 true := by unfold ens2; rw [if_neg (by omega)]
      have x3 : ens3 (stA A n 2000 true) n i = stA A n 2000 true := by unfold ens3; rw [if_neg (by omega)]
      rw [x1, x2, x3, y1, y2, on]
      have b1 := g6.1
      have b2 := g6.2.2.1
      have b3 : (if slo A n 2000 = 0 then 1 else 0) ≤ 1 := by split <;> omega
      have ss : slo (stA A n 2000 true) n i = 0 := by rw [g3 n i hn vi (by omega)]; exact si
      obtain ⟨bi', w', e1, e2, e3, e4, e5⟩ := fin bi1 w1 _ _ g1 (g2.2.2 n 0 hn (by omega)) ss (fun _ => by rw [ep]; exact g4) (by omega) (by omega)
      refine ⟨bi', w', e1, Ext_t g2 e2, e4, fun n' s' a b z => ?_, fun n' s' a b z z2 => ?_, Gt_t g6 e5⟩
      · have q : ¬ (n' = n ∧ s' = i) := fun q => z (by rw [q.1, q.2]; exact si)
        rw [e3 n' s' a b q]
        by_cases q2 : n' = n ∧ s' = 2000
        · rw [q2.1, q2.2] at z ⊢
          exact g5 z
        · exact g3 n' s' a b q2
      · by_cases q : n' = n ∧ s' = i
        · exact ⟨q.1, Or.inl q.2⟩
        · rw [e3 n' s' a b q] at z2
          by_cases q2 : n' = n ∧ s' = 2000
          · exact ⟨q2.1, Or.inr (Or.inl ⟨hs, by rw [ep]; exact q2.2⟩)⟩
          · rw [g3 n' s' a b q2] at z2
            exact absurd z z2
    · -- in a table of the table of tables
      have ep : pa i = 2100 + (i - 40) / 32 := by unfold pa; rw [if_neg (by omega), if_neg d2]
      have vp : vs (pa i) := by rw [ep]; unfold vs; omega
      have rp : rs (pa i) = false := by rw [ep]; exact decide_eq_false (by omega)
      have epp : pa (pa i) = 2001 := by rw [ep]; unfold pa; rw [if_pos (by omega)]
      have ekp : kx (pa i) = (i - 40) / 32 := by rw [ep]; unfold kx; rw [if_pos (by omega)]; omega
      have s94 : ∀ (Z : tS), slo Z n 2001 = nd Z n 94 := fun _ => rfl
      have x1 : ens1 A n i = A := by unfold ens1; rw [if_neg (by omega)]
      have x2 : ens2 A n i = stA A n 2001 true := by
        unfold ens2 stA
        rw [s94]
        by_cases q : nd A n 94 = 0
        · rw [if_pos ⟨by omega, q⟩, if_pos q]
          exact att_r (s := 2001) hn rfl
        · rw [if_neg (fun z => q z.2), if_neg q]
      have y1 : ob1T C n i = stC C A n 2001 true := by
        unfold ob1T stC
        rw [s94, p4]
        by_cases q : nd A n 94 = 0
        · rw [if_pos ⟨by omega, pv_0.mpr q⟩, if_pos q]
          exact atC_r (s := 2001) rfl
        · rw [if_neg (fun z => q (pv_0.mp z.2)), if_neg q]
      have on1 : (if 40 ≤ i ∧ nwC C n 10 = 0 then 1 else 0) = (if slo A n 2001 = 0 then 1 else 0) := by
        rw [s94, p4]
        by_cases q : nd A n 94 = 0
        · rw [if_pos ⟨by omega, pv_0.mpr q⟩, if_pos q]
        · rw [if_neg (fun z => q (pv_0.mp z.2)), if_neg q]
      have hf1 : slo A n 2001 = 0 → 0 < fre A := fun q => by
        unfold obN at hf
        rw [on1, if_pos q] at hf
        omega
      obtain ⟨bi1, w1, g1, g2, g3, g4, g5, g6⟩ := st_all (me := true) (s := 2001) h (fun _ => rfl) hn hkd (by unfold vs; omega) (fun q => by cases q) hf1 (by omega)
      rw [x1, x2]
      have ons : obN C n i = (if slo A n 2001 = 0 then 1 else 0) + (if 8 ≤ i ∧ tbC (stC C A n 2001 true) n i = 0 then 1 else 0) + 1 := by
        unfold obN
        rw [on1, y1]
      rw [y1]
      generalize hA1 : stA A n 2001 true = A1 at *
      generalize hC1 : stC C A n 2001 true = C1 at *
      have k1 : nd A1 n 0 = nd A n 0 := g2.2.2 n 0 hn (by omega)
      obtain ⟨-, r2, r3, r4⟩ := pt_c g1.ok g1.ti g1.mr hn (show nd A1 n 0 ≠ 3 by omega) hi
      have el := lf_slo (A := A1) (n := n) (i := i) (by omega) hi
      have b1 := g6.1
      have b2 := g6.2.2.1
      have b3 : (if slo A n 2001 = 0 then 1 else 0) ≤ 1 := by split <;> omega
      have x3 : ens3 A1 n i = stA A1 n (pa i) true := by
        unfold ens3 stA
        rw [el]
        by_cases q : leafA A1 n i = 0
        · rw [if_pos ⟨by omega, q⟩, if_pos q]
          exact att_n rp (by rw [epp]; rfl) ekp.symm
        · rw [if_neg (fun z => q z.2), if_neg q]
      have n94 : nd A1 n 94 ≠ 0 := g4
      obtain ⟨z, hz⟩ : ∃ z, nd A1 n 94 = z + 1 := ⟨nd A1 n 94 - 1, by omega⟩
      have uz := g1.ti.2.1 n 2001 z hn (by unfold vs; omega) (show nd A1 n 94 = z + 1 from hz)
      have zlt := (g1.ti.1 z uz.1 uz.2.1).1
      have tb0 : tbC C1 n i = 0 ↔ slo A1 n (pa i) = 0 := by rw [r2 (by omega), ← el]; exact pv_0
      have on2 : (if 8 ≤ i ∧ tbC C1 n i = 0 then 1 else 0) = (if slo A1 n (pa i) = 0 then 1 else 0) := by
        by_cases q : slo A1 n (pa i) = 0
        · rw [if_pos ⟨by omega, tb0.mpr q⟩, if_pos q]
        · rw [if_neg (fun y => q (tb0.mp y.2)), if_neg q]
      rw [ons, on2] at hf
      have y2 : ob2T C1 n i = stC C1 A1 n (pa i) true := by
        unfold ob2T stC
        by_cases q : slo A1 n (pa i) = 0
        · have f1 : 0 < fre A1 := by rw [if_pos q] at hf; omega
          rw [if_pos ⟨by omega, tb0.mpr q⟩, if_neg d2, if_pos q, gt_nw g1 f1 hn (by omega), r4, hz, pv_mod (by omega), if_neg (by omega)]
          exact atC_n rp (by rw [epp, s94, hz]; omega) ekp.symm (by rw [g1.zm.1.1]; omega)
        · rw [if_neg (fun y => q (tb0.mp y.2)), if_neg q]
      obtain ⟨bi2, w2, G1, G2, G3, G4, G5, G6⟩ := st_all (me := true) (s := pa i) g1 (fun _ => rfl) hn (by omega) vp (fun _ => by rw [epp]; exact g4) (fun q => by rw [if_pos q] at hf; omega) (by omega)
      rw [x3, y2, ons, on2]
      have c1 := G6.1
      have c2 := G6.2.2.1
      have c3 : (if slo A1 n (pa i) = 0 then 1 else 0) ≤ 1 := by split <;> omega
      have ss1 : slo A1 n i = 0 := by rw [g3 n i hn vi (by omega)]; exact si
      have ss : slo (stA A1 n (pa i) true) n i = 0 := by rw [G3 n i hn vi (fun q => by have := q.2; omega)]; exact ss1
      obtain ⟨bi', w', e1, e2, e3, e4, e5⟩ := fin bi2 w2 _ _ G1 (by rw [G2.2.2 n 0 hn (by omega)]; exact k1) ss (fun _ => G4) (by omega) (by omega)
      refine ⟨bi', w', e1, Ext_t g2 (Ext_t G2 e2), e4, fun n' s' a b z => ?_, fun n' s' a b z z2 => ?_, ?_⟩
      · have q : ¬ (n' = n ∧ s' = i) := fun q => z (by rw [q.1, q.2]; exact si)
        have z1 : slo A1 n' s' = slo A n' s' := by
          by_cases q2 : n' = n ∧ s' = 2001
          · rw [q2.1, q2.2] at z ⊢
            exact g5 z
          · exact g3 n' s' a b q2
        rw [e3 n' s' a b q, ← z1]
        rw [← z1] at z
        by_cases q2 : n' = n ∧ s' = pa i
        · rw [q2.1, q2.2] at z ⊢
          exact G5 z
        · exact G3 n' s' a b q2
      · by_cases q : n' = n ∧ s' = i
        · exact ⟨q.1, Or.inl q.2⟩
        · rw [e3 n' s' a b q] at z2
          by_cases q2 : n' = n ∧ s' = pa i
          · exact ⟨q2.1, Or.inr (Or.inl ⟨hs, q2.2⟩)⟩
          · rw [G3 n' s' a b q2] at z2
            by_cases q3 : n' = n ∧ s' = 2001
            · exact ⟨q3.1, Or.inr (Or.inr ⟨hs, rp, by rw [epp]; exact q3.2⟩)⟩
            · rw [g3 n' s' a b q3] at z2
              exact absurd z z2
      · have := Gt_t g6 (Gt_t G6 e5)
        rwa [← Nat.add_assoc] at this
end SRH
