/-! ===== PURE: a node's header, a file's size, in both ===== -/
section SRM
variable {bi : Nat → Nat} {w : Nat → Nat × Nat} {C A B X : tS} {W V : Nat → Nat} {n s i : Nat} {me : Bool}
theorem nb_n (hn : n < 64) : nbA A (2 + n / 2) = 2 + n / 2 := by
  unfold nbA
  rw [if_pos (by omega)]
theorem sn_tch (h : SR bi w C A) (hn : n < 64) {j v : Nat} (b51 : ∀ b, B 51 b = 0 ↔ b ≠ 2 + n / 2 ∧ A 51 b = 0) (bo : ∀ p, p ≠ 36 → p ≠ 51 → B p = A p) : tch1 C (snC C n j v) A B (2 + n / 2) := by
  have z1 := h.zm.1.1
  unfold snC
  refine ⟨fun k => ?_, fun b => by rw [nb_n hn]; exact b51 b, fun p p0 p1 p2 => by rw [tou_o p0 p2, up2_rown p1], fun q hq => by rw [tou_10 hq, up2_o (by decide)], bo, ci_tou (ci_11 h.rk.1)⟩
  rw [tou_15 (by omega) (by rw [up2_o (by decide), z1]; omega), up2_o (by decide)]
theorem sn_11 {j v q : Nat} : snC C n j v 11 q = if q = 64 + n * 16 + j then v else C 11 q := by
  unfold snC
  rw [tou_o (by decide) (by decide)]
  by_cases c : q = 64 + n * 16 + j
  · rw [c, up2_s, if_pos rfl]
  · rw [up2_j c, if_neg c]
/-- a header -/
theorem SR_hdr (h : SR bi w C A) (hn : n < 64) (b36 : ∀ j, ¬ (n * 95 < j ∧ j < n * 95 + 4) → B 36 j = A 36 j) (b51 : ∀ b, B 51 b = 0 ↔ b ≠ 2 + n / 2 ∧ A 51 b = 0) (bo : ∀ p, p ≠ 36 → p ≠ 51 → B p = A p) (h0 : nd A n 0 ≠ 0) (hO : okT B) {k na p z : Nat}
    (e1 : k = nd B n 0) (e2 : na = nd B n 2) (e3 : p = nd B n 3) (e4 : z = if nd B n 0 = 3 then nd B n 4 else nd B n 1) : SR bi w (shC C n k na p z) B := by
  have k0 : nd B n 0 = nd A n 0 := b36 _ (by omega)
  have b4 := (nd_k h.ok hn).2.2.2.2
  have hi : ∀ j, 4 ≤ j → j < 95 → nd B n j = nd A n j := fun j _ _ => b36 _ (by omega)
  have hse : ∀ r, se B r = se A r := fun r => b36 _ (by omega)
  obtain ⟨a1, a2, a3, a4⟩ := h.mr.2.2.1 n hn
  unfold shC
  refine SR_nod h hn (fun j hj => b36 j (by omega)) (sn_tch h hn b51 bo) (fun q hq => by rw [sn_11, if_neg (by omega)]) (Or.inl k0) ⟨?_, fun c i hi2 => ?_, fun c i hi2 => ?_, fun c => by omega⟩ hO
  · rw [sn_11, if_pos (by omega), if_neg (by omega), e1, e2, e3, e4]
  · rw [hi 4 (by omega) (by omega)] at hi2
    rw [hi (5 + i) (by omega) (by omega), ← a2 (by omega) i hi2]
    refine oW_e ?_ rfl
    rw [sn_11, if_neg (by omega)]
  · rw [sn_11, if_neg (by omega), hi (85 + i) (by omega) (by omega)]
    have := a3 (by omega) i hi2
    rw [this]
    unfold pv
    rw [hse]
theorem setN_r {x v : Nat} (hn : n < 64) (hx : x < 4) (h1 : 1 ≤ x) : (∀ j, ¬ (n * 95 < j ∧ j < n * 95 + 4) → setN A n x v 36 j = A 36 j) ∧ (∀ b, setN A n x v 51 b = 0 ↔ b ≠ 2 + n / 2 ∧ A 51 b = 0) ∧ (∀ p, p ≠ 36 → p ≠ 51 → setN A n x v p = A p) ∧ (∀ n' j, j < 95 → nd (setN A n x v) n' j = if n' = n ∧ j = x then v else nd A n' j) ∧ (∀ n' s', n' < 64 → vs s' → slo (setN A n x v) n' s' = slo A n' s') := by
  have e36 : ∀ j, setN A n x v 36 j = if j = n * 95 + x then v else A 36 j := fun j => by
    unfold setN
    rw [up2_o (by decide)]
    by_cases c : j = n * 95 + x
    · rw [c, up2_s, if_pos rfl]
    · rw [up2_j c, if_neg c]
  have en : ∀ n' j, j < 95 → nd (setN A n x v) n' j = if n' = n ∧ j = x then v else nd A n' j := fun n' j hj => by
    unfold nd
    rw [e36]
    by_cases c : n' = n ∧ j = x
    · rw [if_pos c, if_pos (by rw [c.1, c.2])]
    · rw [if_neg c, if_neg (by omega)]
  refine ⟨fun j hj => by rw [e36, if_neg (by omega)], fun b => ?_, fun p p0 p1 => ?_, en, fun n' s' a b => slo_cong (fun n' i a b c => by rw [en n' i c, if_neg (by omega)]) (fun r k hk => ?_) a b⟩
  · unfold setN
    by_cases c : b = 2 + n / 2
    · rw [c, up2_s]
      exact ⟨fun q => by omega, fun q => absurd rfl q.1⟩
    · rw [up2_j c, up2_o (by decide)]
      exact ⟨fun q => ⟨c, q⟩, fun q => q.2⟩
  · unfold setN
    rw [up2_rown p1, up2_rown p0]
  · unfold pt
    rw [e36, if_neg (by omega)]
theorem okT_sz {v : Nat} (h : okT A) (hn : n < 64) (hv : v ≤ 272384) : okT (setN A n 1 v) := by
  unfold setN
  refine okT_oth (okT_up h ?_) (by decide)
  unfold bT
  rw [if_pos (by omega), show (n * 95 + 1) % 95 = 1 by omega]
  show v < 272385
  omega
/-- blocks dropped one after another -/
theorem SR_dd {l sz : Nat} (hl : l = (sz + 255) / 256) : ∀ m (C A : tS), SR bi w C A → n < 64 → nd A n 0 = 1 → l + m ≤ 1064 → SR bi w (drL n l m C) (dd n sz (l + m) A) ∧ (∀ n' s', n' < 64 → vs s' → slo (dd n sz (l + m) A) n' s' = slo A n' s' ∨ (n' = n ∧ slo (dd n sz (l + m) A) n' s' = 0 ∧ ((l ≤ s' ∧ s' < 1064) ∨ 2000 ≤ s'))) ∧ (∀ i, l ≤ i → i < l + m → slo (dd n sz (l + m) A) n i = 0) ∧ Les C (drL n l m C) A (dd n sz (l + m) A) ∧ (TF A → TF (dd n sz (l + m) A))
  | 0, C, A, h, hn, hk, hm => by
    have e : dd n sz (l + 0) A = A := by
      cases l with
      | zero => rfl
      | succ l =>
        show (if 256 * l < sz then A else _) = A
        rw [if_pos (by omega)]
    rw [e]
    exact ⟨h, fun _ _ _ _ => Or.inl rfl, fun i a b => by omega, Les_r, fun t => t⟩
  | m + 1, C, A, h, hn, hk, hm => by
    have e : dd n sz (l + (m + 1)) A = dd n sz (l + m) (dropA A n (l + m)) := by
      show (if 256 * (l + m) < sz then A else dd n sz (l + m) (dropA A n (l + m))) = _
      rw [if_neg (by omega)]
    obtain ⟨g1, g2, g3, g4, g5⟩ := SR_drop (i := l + m) h hn (Or.inl hk) (by omega) (fun q => by omega)
    have k2 : nd (dropA A n (l + m)) n 0 = 1 := by rw [g4.2.2.2.1 n 0 hn (by omega)]; exact hk
    obtain ⟨i1, i2, i3, i4, i5⟩ := SR_dd hl m (drT C n (l + m)) (dropA A n (l + m)) g1 hn k2 (by omega)
    rw [e]
    refine ⟨i1, fun n' s' a b => ?_, fun i a b => ?_, Les_t g4 i4, fun t => i5 (g5 t)⟩
    · rcases i2 n' s' a b with q | q
      · rcases g3 n' s' a b with y | ⟨y1, y2, y3⟩
        · exact Or.inl (by rw [q, y])
        · refine Or.inr ⟨y1, by rw [q, y2], ?_⟩
          rcases y3 with y3 | y3
          · exact Or.inl (by omega)
          · exact Or.inr y3
      · exact Or.inr q
    · by_cases c : i = l + m
      · rcases i2 n i hn (Or.inl (by omega)) with q | q
        · rw [q, c]
          exact g2
        · exact q.2.1
      · exact i3 i a (by omega)
/-- a file's size -/
theorem SR_sz {sz : Nat} (h : SR bi w C A) (hn : n < 64) (hk : nd A n 0 = 1) (hz : sz ≤ 272384) (hD : ∀ i, i < 1064 → nd A n 1 ≤ 256 * i → hasA A n i = 0) : SR bi w (reC C n sz) (szA A n sz) ∧ (∀ n' s', n' < 64 → vs s' → slo (szA A n sz) n' s' = slo A n' s' ∨ (n' = n ∧ slo (szA A n sz) n' s' = 0)) ∧ (∀ i, i < 1064 → sz ≤ 256 * i → hasA (szA A n sz) n i = 0) ∧ (TF A → TF (szA A n sz)) ∧
    (∀ n' j, n' < 64 → j < 85 → nd (szA A n sz) n' j = if n' = n ∧ j = 1 then sz else nd A n' j) ∧ (∀ q, szA A n sz 35 q = A 35 q) ∧ fre (szA A n sz) = fre A ∧ reC C n sz 10 15 = C 10 15 := by
  obtain ⟨k0, k1⟩ := hd_c h.ok h.mr hn
  obtain ⟨k1, k2, k3⟩ := k1 (by omega)
  rw [if_neg (by omega)] at k3
  have b1 := (nd_k h.ok hn).2.1
  obtain ⟨r1, r2, r3, r4, r5⟩ := setN_r (A := A) (v := sz) (x := 1) hn (by omega) (by omega)
  have hO := okT_sz h.ok hn hz
  have H1 : SR bi w (re1 C n sz) (setN A n 1 sz) := by
    unfold re1
    refine SR_hdr h hn r1 r2 r3 (by omega) hO ?_ ?_ ?_ ?_
    · rw [k0, r4 n 0 (by omega), if_neg (by omega)]
    · rw [k1, r4 n 2 (by omega), if_neg (by omega)]
    · rw [k2, r4 n 3 (by omega), if_neg (by omega)]
    · have x0 : nd (setN A n 1 sz) n 0 = 1 := by rw [r4 n 0 (by omega), if_neg (by omega)]; exact hk
      have x1 : nd (setN A n 1 sz) n 1 = sz := by rw [r4 n 1 (by omega), if_pos ⟨rfl, rfl⟩]
      rw [x0, x1, if_neg (by decide)]
  have f1 : fre (setN A n 1 sz) = fre A := by
    unfold fre frA
    rw [r3 35 (by decide) (by decide), r3 49 (by decide) (by decide)]
    refine cn_congr _ _ (fun r _ _ => ?_)
    rw [r1 _ (by omega)]
  have c1 : re1 C n sz 10 15 = C 10 15 := by
    unfold re1 shC
    rw [sn_10 (by decide)]
  have H2 : SR bi w (up2 (re1 C n sz) 19 n 1) (up2 (setN A n 1 sz) 50 n 1) := SR_chg H1 ⟨fun q => by omega, fun q => by omega⟩
  have f2 : fre (up2 (setN A n 1 sz) 50 n 1) = fre A := by
    rw [← f1]
    unfold fre frA
    rw [up2_rown (show (36 : Nat) ≠ 50 by decide), up2_rown (show (49 : Nat) ≠ 50 by decide), up2_rown (show (35 : Nat) ≠ 50 by decide)]
  have s2 : ∀ n' s', n' < 64 → vs s' → slo (up2 (setN A n 1 sz) 50 n 1) n' s' = slo A n' s' := fun n' s' a b => by rw [sl_50, r5 n' s' a b]
  have TFe : ∀ (Y : tS), (∀ n' s', n' < 64 → vs s' → slo Y n' s' = slo A n' s') → TF A → TF Y := fun Y hY t n' s' a b c e => by
    rw [hY n' s' a b] at e
    obtain ⟨k, q1, q2⟩ := t n' s' a b c e
    exact ⟨k, q1, by rw [hY n' _ a (chS_ok b c q1).1]; exact q2⟩
  unfold reC szA
  rw [k3]
  by_cases c : nd A n 1 = sz
  · rw [if_pos c, if_pos c.symm]
    refine ⟨H1, fun n' s' a b => Or.inl (r5 n' s' a b), fun i hi q => ?_, TFe _ r5, fun n' j a b => r4 n' j (by omega), fun q => by rw [r3 35 (by decide) (by decide)], f1, c1⟩
    rw [← hs_slo hi, r5 n i hn (Or.inl hi), hs_slo hi]
    exact hD i hi (by omega)
  · rw [if_neg c, if_neg (fun q => c q.symm)]
    have zall : ∀ e, e < 272384 → SR bi w (zbC (up2 (re1 C n sz) 19 n 1) n e) (zb (up2 (setN A n 1 sz) 50 n 1) n e) ∧ (∀ p, p ≠ 47 → p ≠ 48 → zb (up2 (setN A n 1 sz) 50 n 1) n e p = up2 (setN A n 1 sz) 50 n 1 p) ∧ zbC (up2 (re1 C n sz) 19 n 1) n e 10 15 = C 10 15 := by
      intro e he
      obtain ⟨q1, q2, q3⟩ := SR_zb (e := e) H2 hn (by rw [nd_50, r4 n 0 (by omega), if_neg (by omega)]; exact hk) he
      exact ⟨q1, q2, by rw [q3, up2_o (by decide), c1]⟩
    have zsl : ∀ e, e < 272384 → (∀ n' s', n' < 64 → vs s' → slo (zb (up2 (setN A n 1 sz) 50 n 1) n e) n' s' = slo A n' s') ∧ (∀ n' j, n' < 64 → j < 85 → nd (zb (up2 (setN A n 1 sz) 50 n 1) n e) n' j = if n' = n ∧ j = 1 then sz else nd A n' j) ∧ (∀ q, zb (up2 (setN A n 1 sz) 50 n 1) n e 35 q = A 35 q) ∧ fre (zb (up2 (setN A n 1 sz) 50 n 1) n e) = fre A := by
      intro e he
      obtain ⟨-, q2, -⟩ := zall e he
      have q36 := q2 36 (by decide) (by decide)
      have q35 := q2 35 (by decide) (by decide)
      have q49 := q2 49 (by decide) (by decide)
      refine ⟨fun n' s' a b => ?_, fun n' j a b => ?_, fun q => by rw [q35, up2_o (by decide), r3 35 (by decide) (by decide)], ?_⟩
      · rw [← s2 n' s' a b]
        unfold slo hasA leafA pt nd
        rw [q36]
      · rw [← r4 n' j (by omega), ← nd_50 (A := setN A n 1 sz) (k := n) (v := 1)]
        unfold nd
        rw [q36]
      · rw [← f2]
        unfold fre frA
        rw [q36, q35, q49]
    by_cases d : nd A n 1 < sz
    · rw [if_pos d, if_pos d, show (nd A n 1 - 1) / 256 + 1 - (sz + 255) / 256 = 0 by omega]
      show SR bi w (zbC (up2 (re1 C n sz) 19 n 1) n (nd A n 1)) _ ∧ _
      obtain ⟨q1, q2, q3⟩ := zall (nd A n 1) (by omega)
      obtain ⟨y1, y2, y3, y4⟩ := zsl (nd A n 1) (by omega)
      refine ⟨q1, fun n' s' a b => Or.inl (y1 n' s' a b), fun i hi q => ?_, TFe _ y1, y2, y3, y4, q3⟩
      rw [← hs_slo hi, y1 n i hn (Or.inl hi), hs_slo hi]
      exact hD i hi (by omega)
    · rw [if_neg d, if_neg d]
      obtain ⟨q1, q2, q3⟩ := zall sz (by omega)
      obtain ⟨y1, y2, y3, y4⟩ := zsl sz (by omega)
      have ek : nd (zb (up2 (setN A n 1 sz) 50 n 1) n sz) n 0 = 1 := by rw [y2 n 0 hn (by omega), if_neg (by omega)]; exact hk
      have hm : (sz + 255) / 256 + ((nd A n 1 - 1) / 256 + 1 - (sz + 255) / 256) = (nd A n 1 - 1) / 256 + 1 := by omega
      obtain ⟨x1, x2, x3, x4, x5⟩ := SR_dd (n := n) (sz := sz) rfl ((nd A n 1 - 1) / 256 + 1 - (sz + 255) / 256) _ _ q1 hn ek (by omega)
      rw [hm] at x1 x2 x3 x4 x5
      refine ⟨x1, fun n' s' a b => ?_, fun i hi q => ?_, fun t => x5 (TFe _ y1 t), fun n' j a b => by rw [x4.2.2.2.1 n' j a b, y2 n' j a b], fun q => by rw [x4.1, y3], by rw [x4.2.2.1, y4], by rw [x4.2.1, q3]⟩
      · rcases x2 n' s' a b with t | t
        · exact Or.inl (by rw [t, y1 n' s' a b])
        · exact Or.inr ⟨t.1, t.2.1⟩
      · by_cases t : i < (nd A n 1 - 1) / 256 + 1
        · rw [← hs_slo hi]
          exact x3 i (by omega) t
        · rw [← hs_slo hi]
          rcases x2 n i hn (Or.inl hi) with t2 | t2
          · rw [t2, y1 n i hn (Or.inl hi), hs_slo hi]
            exact hD i hi (by omega)
          · exact t2.2.1
end SRM
