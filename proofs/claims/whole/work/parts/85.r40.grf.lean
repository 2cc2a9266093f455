/-! ===== PURE: how much a call touches: entries, blocks got ===== -/
section GRF
variable {bi : Nat → Nat} {w : Nat → Nat × Nat} {C X A B E : tS} {t n m k d r s i lo hi lim sz l a v x q : Nat} {me : Bool} {L L' R R' : List Nat}
theorem TL_N (hn : n < 64) (hx : x < 85) : TL n lo hi A (setN A n x v) ∧ RvL n lim A (setN A n x v) ∧ VL n A (setN A n x v) := by
  have sl := sl_N (A := A) (v := v) hn hx
  refine ⟨fun b hb => ?_, fun b hb => Or.inl ?_, fun s hs => Or.inl (sl s hs), setN_o (by decide) (by decide)⟩
  · rcases tB_N.1 b hb with y | y
    · exact Or.inl ⟨y, fun s _ hs z1 z2 => absurd (by rw [← sl s hs]; exact z2) z1⟩
    · exact Or.inr (Or.inr (Or.inl (List.mem_singleton.mp y)))
  · rwa [setN_o (by decide) (by decide)] at hb
/-- bare blocks at the end of a directory go -/
theorem TL_rl (hd : d < 64) : ∀ m (C A : tS), SR bi w C A → nd A d 0 = 2 → m ≤ 64 → (∀ i, i < m → hasA A d i ≠ 0) → TL d 0 64 A (remL d m A) ∧ RvL d 64 A (remL d m A) ∧ VL d A (remL d m A)
  | 0, _, _, _, _, _, _ => ⟨TL_r, RvL_r, VL_r⟩
  | m + 1, C, A, h, hk2, hm, hh => by
    show TL d 0 64 A (if bareA A d m = true then remL d m (setN (dropA A d m) d 1 (256 * m)) else A) ∧ RvL d 64 A (if bareA A d m = true then remL d m (setN (dropA A d m) d 1 (256 * m)) else A) ∧ VL d A (if bareA A d m = true then remL d m (setN (dropA A d m) d 1 (256 * m)) else A)
    by_cases c : bareA A d m = true
    · rw [if_pos c]
      obtain ⟨r, hr⟩ : ∃ r, hasA A d m = r + 1 := by
        have := hh m (by omega)
        exact ⟨hasA A d m - 1, by omega⟩
      have bz := (bare_iff hr).mp c
      have hb : nd A d 0 = 2 → ∀ r', hasA A d m = r' + 1 → ∀ k, k < 8 → eZ A r' k 0 = 64 := fun _ r' hr' => by rw [hr] at hr'; rw [show r' = r by omega]; exact bz
      obtain ⟨g1, g2, g3, g4, g5⟩ := SR_drop (i := m) h hd (Or.inr hk2) (by omega) hb
      have k0 : nd (dropA A d m) d 0 = 2 := by rw [g4.2.2.2.1 d 0 hd (by omega)]; exact hk2
      obtain ⟨a0, a1⟩ := hd_c g1.ok g1.mr hd
      obtain ⟨a1, a2, a3⟩ := a1 (by omega)
      obtain ⟨r1, r2, r3, r4, r5⟩ := setN_r (A := dropA A d m) (n := d) (v := 256 * m) (x := 1) hd (by omega) (by omega)
      have H : SR bi w (shC (drT C d m) d (kiC (drT C d m) d) (naC (drT C d m) d) (prC (drT C d m) d) (m * 256)) (setN (dropA A d m) d 1 (256 * m)) := by
        refine SR_hdr g1 hd r1 r2 r3 (by omega) (okT_sz g1.ok hd (by omega)) ?_ ?_ ?_ ?_
        · rw [a0, r4 d 0 (by omega), if_neg (by omega)]
        · rw [a1, r4 d 2 (by omega), if_neg (by omega)]
        · rw [a2, r4 d 3 (by omega), if_neg (by omega)]
        · have x0 : nd (setN (dropA A d m) d 1 (256 * m)) d 0 = 2 := by rw [r4 d 0 (by omega), if_neg (by omega)]; exact k0
          have x1 : nd (setN (dropA A d m) d 1 (256 * m)) d 1 = 256 * m := by rw [r4 d 1 (by omega), if_pos ⟨rfl, rfl⟩]
          rw [x0, x1, if_neg (by decide)]
          omega
      refine all_t (TL_drop h hd (Or.inr hk2) (by omega) hb (by omega) (by omega) (fun _ => by omega)) (all_t (TL_N hd (by omega)) (TL_rl hd m _ _ H (by rw [r4 d 0 (by omega), if_neg (by omega)]; exact k0) (by omega) (fun i hi => ?_)))
      rw [← hs_slo (by omega), r5 d i hd (Or.inl (by omega))]
      rcases g3 d i hd (Or.inl (by omega)) with q | ⟨-, -, q⟩
      · rw [q, hs_slo (by omega)]
        exact hh i (by omega)
      · omega
    · rw [if_neg c]
      exact ⟨TL_r, RvL_r, VL_r⟩
theorem TG_64 {b : Nat} (h : TG n 0 64 B b) : b ∈ 1 :: (2 + n / 2) :: bks B n [2000, 2001, 2100] := by
  rcases h with h | h | ⟨s, h1, h2, h3, h4, j, j1, j2, j3, j4, j5⟩
  · rw [h]
    exact List.mem_cons_self
  · rw [h]
    exact List.mem_cons_of_mem _ List.mem_cons_self
  · refine List.mem_cons_of_mem _ (List.mem_cons_of_mem _ (List.mem_map.mpr ⟨s, ?_, h4.symm⟩))
    have : s = 2000 ∨ s = 2001 ∨ s = 2100 := by
      rcases j5 with y | y
      · unfold pa at y
        rw [if_neg (by omega)] at y
        by_cases c : j < 40
        · rw [if_pos c] at y
          exact Or.inl y
        · rw [if_neg c] at y
          exact Or.inr (Or.inr (by omega))
      · exact Or.inr (Or.inl y.2)
    rcases this with y | y | y
    · rw [y]
      exact List.mem_cons_self
    · rw [y]
      exact List.mem_cons_of_mem _ List.mem_cons_self
    · rw [y]
      exact List.mem_cons_of_mem _ (List.mem_cons_of_mem _ List.mem_cons_self)
/-- an entry goes -/
theorem tB_rem (S : SR bi w C A) (z3 : ∀ i, i < nd A d 1 / 256 → hasA A d i ≠ 0) (hz : nd A d 1 / 256 ≤ 64) (hd : d < 64) (h2 : nd A d 0 = 2) (hk : k < eAll A d) : ∃ L R, L.length ≤ 6 ∧ R.length ≤ 98 ∧ tB L R A (remA A d k) := by
  obtain ⟨l1, l2⟩ := eA_lt S.ok hd hk
  obtain ⟨r, hr⟩ : ∃ r, hasA A d (k / 8) = r + 1 := ⟨hasA A d (k / 8) - 1, by have := z3 _ l1; omega⟩
  obtain ⟨g1, g2, g3, g4, g5⟩ := SR_clr S hd h2 l2 hr
  have e1 : nd (putE A d k 64) d 1 = nd A d 1 := g3 d 1 hd (by omega)
  have e : remA A d k = remL d (nd A d 1 / 256) (putE A d k 64) := by
    unfold remA
    rw [e1]
  obtain ⟨t1, t2, t3⟩ := TL_rl hd (nd A d 1 / 256) _ _ g1 (by rw [g3 d 0 hd (by omega)]; exact h2) hz (fun i hi => by
    rw [← hs_slo (by omega), g4 d i hd (Or.inl (by omega)), hs_slo (by omega)]
    exact z3 i hi)
  rw [← e] at t1 t2
  have p := tB_pE (A := A) (d := d) (k := k) (v := 64)
  refine ⟨[34 + A 35 6 + (hasA A d (k / 8) - 1)] ++ (1 :: (2 + d / 2) :: bks (remA A d k) d [2000, 2001, 2100]), [] ++ bks (putE A d k 64) d (tbl ++ List.range 64), ?_, ?_, tB_t p ⟨fun b hb => ?_, RvL_tB t2⟩⟩
  · exact Nat.le_refl 6
  · unfold bks tbl
    rw [List.nil_append, List.length_map, List.length_append, List.length_cons, List.length_cons, List.length_map, List.length_range, List.length_range]
    exact Nat.le_refl _
  · rcases t1 b hb with y | y
    · exact Or.inl y.1
    · exact Or.inr (TG_64 y)
theorem get_51 {b : Nat} : getA A r me 51 b ≠ 0 → A 51 b ≠ 0 ∨ b = 1 ∨ (me = true ∧ b = 34 + A 35 6 + r) := fun h => by
  unfold getA at h
  rw [up2_o (by decide), fl_row (by decide)] at h
  cases me with
  | true =>
    rw [cond_true, up2_if] at h
    by_cases c : 51 = 51 ∧ b = 34 + A 35 6 + r
    · exact Or.inr (Or.inr ⟨rfl, c.2⟩)
    · rw [if_neg c, up2_if] at h
      by_cases c2 : 51 = 51 ∧ b = 1
      · exact Or.inr (Or.inl c2.2)
      · rw [if_neg c2, up2_o (by decide), up2_o (by decide), up2_o (by decide)] at h
        exact Or.inl h
  | false =>
    rw [cond_false, up2_if] at h
    by_cases c2 : 51 = 51 ∧ b = 1
    · exact Or.inr (Or.inl c2.2)
    · rw [if_neg c2, up2_o (by decide), up2_o (by decide), up2_o (by decide)] at h
      exact Or.inl h
theorem get_52 : getA A r me 52 = A 52 := by
  funext b
  unfold getA
  rw [up2_o (by decide), fl_row (by decide)]
  cases me with
  | true => rw [cond_true, up2_o (by decide), up2_o (by decide), up2_o (by decide), up2_o (by decide), up2_o (by decide)]
  | false => rw [cond_false, up2_o (by decide), up2_o (by decide), up2_o (by decide), up2_o (by decide)]
theorem tB_get : tB [1, 34 + A 35 6 + r] [] A (getA A r me) := by
  refine ⟨fun b hb => ?_, fun b hb => Or.inl (by rw [← get_52 (A := A) (r := r) (me := me)]; exact hb)⟩
  rcases get_51 hb with y | y | y
  · exact Or.inl y
  · exact Or.inr (by rw [y]; exact List.mem_cons_self)
  · exact Or.inr (by rw [y.2]; exact List.mem_cons_of_mem _ List.mem_cons_self)
theorem tB_P : tB [34 + A 35 6 + r] [] A (setP A r k v) := by
  refine ⟨fun b hb => ?_, fun b hb => Or.inl ?_⟩
  · unfold setP at hb
    rw [up2_if] at hb
    by_cases c : 51 = 51 ∧ b = 34 + A 35 6 + r
    · exact Or.inr (by rw [c.2]; exact List.mem_singleton.mpr rfl)
    · rw [if_neg c, up2_o (by decide)] at hb
      exact Or.inl hb
  · unfold setP at hb
    rw [up2_o (by decide), up2_o (by decide)] at hb
    exact hb
theorem tB_aN : ∃ L, L.length ≤ 3 ∧ tB L [] A (attN A n x me) := ⟨_, Nat.le_refl _, tB_t tB_get tB_N⟩
theorem tB_aP : ∃ L, L.length ≤ 3 ∧ tB L [] A (attP A d k me) := ⟨_, Nat.le_refl _, tB_t tB_get tB_P⟩
theorem tB_nil : tB [] [] A A := tB_e rfl rfl
/-- one block more, with its tables -/
theorem tB_ens : ∃ L, L.length ≤ 9 ∧ tB L [] A (ensA A n i) := by
  have e0 : tB [] [] A (up2 A 50 n 1) := tB_e (up2_rown (by decide)) (up2_rown (by decide))
  unfold ensA
  by_cases c : hasA A n i ≠ 0
  · rw [if_pos c]
    exact ⟨[], Nat.zero_le _, tB_nil⟩
  · rw [if_neg c]
    generalize up2 A 50 n 1 = U at e0
    have s4 : ∀ Y : tS, ∃ L, L.length ≤ 3 ∧ tB L [] Y (ens4 Y n i) := fun Y => by
      unfold ens4
      split
      · exact tB_aN
      · exact tB_aP
    by_cases d : i < 40
    · have x2 : ∀ Y : tS, ens2 Y n i = Y := fun Y => by unfold ens2; rw [if_neg (by omega)]
      have x3 : ∀ Y : tS, ens3 Y n i = Y := fun Y => by unfold ens3; rw [if_neg (by omega)]
      rw [x2, x3]
      obtain ⟨L1, l1, t1⟩ : ∃ L, L.length ≤ 3 ∧ tB L [] U (ens1 U n i) := by
        unfold ens1
        split
        · exact tB_aN
        · exact ⟨[], Nat.zero_le _, tB_nil⟩
      obtain ⟨L2, l2, t2⟩ := s4 (ens1 U n i)
      exact ⟨[] ++ (L1 ++ L2), by rw [List.nil_append, List.length_append]; omega, tB_t e0 (tB_t t1 t2)⟩
    · have x1 : ens1 U n i = U := by unfold ens1; rw [if_neg (by omega)]
      rw [x1]
      obtain ⟨L1, l1, t1⟩ : ∃ L, L.length ≤ 3 ∧ tB L [] U (ens2 U n i) := by
        unfold ens2
        split
        · exact tB_aN
        · exact ⟨[], Nat.zero_le _, tB_nil⟩
      obtain ⟨L2, l2, t2⟩ : ∃ L, L.length ≤ 3 ∧ tB L [] (ens2 U n i) (ens3 (ens2 U n i) n i) := by
        unfold ens3
        split
        · exact tB_aP
        · exact ⟨[], Nat.zero_le _, tB_nil⟩
      obtain ⟨L3, l3, t3⟩ := s4 (ens3 (ens2 U n i) n i)
      exact ⟨[] ++ (L1 ++ (L2 ++ L3)), by rw [List.nil_append, List.length_append, List.length_append]; omega, tB_t e0 (tB_t t1 (tB_t t2 t3))⟩
/-- an entry more -/
theorem tB_add {nm : Nat → Nat} : ∃ L, L.length ≤ 11 ∧ tB L [] A (addA A d nm m v) := by
  obtain ⟨L1, l1, t1⟩ : ∃ L, L.length ≤ 10 ∧ tB L [] A (add1 A d) := by
    unfold add1
    split
    · obtain ⟨L, l, t⟩ := tB_ens (A := A) (n := d) (i := ffA A d / 8)
      exact ⟨L ++ [2 + d / 2], by rw [List.length_append]; show L.length + 1 ≤ 10; omega, tB_t t tB_N⟩
    · exact ⟨[], Nat.zero_le _, tB_nil⟩
  have t2 : tB [] [] (add1 A d) (nmL d (ffA A d) nm m 0 (up2 (add1 A d) 36 (ex (add1 A d) d (ffA A d) 1) m)) := tB_e (by rw [nmL_o (by decide), up2_rown (by decide)]) (by rw [nmL_o (by decide), up2_rown (by decide)])
  refine ⟨L1 ++ ([] ++ [_]), ?_, tB_t t1 (tB_t t2 tB_pE)⟩
  rw [List.nil_append, List.length_append]
  show L1.length + 1 ≤ 11
  omega
theorem tB_sl {tx : Nat → Nat} : ∀ m k (A : tS), tB [2 + n / 2] [] A (slF n tx k m A)
  | 0, _, _ => tB_w tB_nil (fun b hb => by cases hb) (fun b hb => by cases hb)
  | m + 1, k, A => tB_w (tB_t tB_N (tB_sl m (k + 1) _)) (fun b hb => by
    rcases List.mem_append.mp hb with y | y
    · exact y
    · exact y) (fun b hb => by cases hb)
theorem tB_mk4 : tB [2 + n / 2] [] A (mk4 A n d v) := by
  unfold mk4
  refine tB_w (tB_t (tB_t (tB_t (tB_t tB_N tB_N) tB_N) tB_N) (tB_e (up2_rown (by decide)) (up2_rown (by decide)))) (fun b hb => ?_) (fun b hb => by cases hb)
  simp only [List.append_nil, List.mem_append, List.mem_singleton] at hb
  refine List.mem_singleton.mpr ?_
  rcases hb with ((y | y) | y) | y <;> exact y
theorem tB_mkS : tB [2 + n / 2] [] A (mkS A n d v) := by
  unfold mkS
  split
  · refine tB_w (tB_t (tB_t tB_mk4 tB_N) (tB_sl _ _ _)) (fun b hb => ?_) (fun b hb => by cases hb)
    simp only [List.mem_append, List.mem_singleton] at hb
    refine List.mem_singleton.mpr ?_
    rcases hb with (y | y) | y <;> exact y
  · exact tB_mk4
end GRF
