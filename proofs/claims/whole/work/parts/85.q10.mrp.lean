/-! ===== PURE: a block put into a place, or taken from it: META's words ===== -/
/-- where the class keeps the pointer of a place -/
def lcW (A : tS) (n s : Nat) : Nat := if rs s then 64 + n * 16 + (ro s - 84) else (34 + (slo A n (pa s) - 1)) * 32 + kx s
/-- the place with a table's k-th pointer -/
def chS (t k : Nat) : Nat := if t = 2000 then 8 + k else if t = 2001 then 2100 + k else 40 + (t - 2100) * 32 + k
/-- words behind a put -/
def pW (A : tS) (W V : Nat → Nat) (n s g r0 b : Nat) (z : Bool) : Prop := ∀ q, V q = if q = lcW A n s then g else if z = true ∧ (34 + r0) * 32 ≤ q ∧ q < (34 + r0) * 32 + 32 then 0 else if q = 32 + r0 / 64 then setF (W q) (r0 % 64) 1 b else W q
section MRP
variable {bi : Nat → Nat} {w : Nat → Nat × Nat} {C A B : tS} {W V : Nat → Nat} {n s x r0 u v g b : Nat} {z : Bool}
theorem lw_r (h : rs s = true) : lcW A n s = 64 + n * 16 + (ro s - 84) := by unfold lcW; rw [if_pos h]
theorem lw_n (h : rs s = false) : lcW A n s = (34 + (slo A n (pa s) - 1)) * 32 + kx s := by unfold lcW; rw [h]; rfl
theorem chS_ok {t k : Nat} (ht : vs t) (h2 : 2000 ≤ t) (hk : k < 32) : vs (chS t k) ∧ rs (chS t k) = false ∧ pa (chS t k) = t ∧ kx (chS t k) = k := by
  unfold vs at ht
  by_cases c1 : t = 2000
  · have e : chS t k = 8 + k := by unfold chS; rw [if_pos c1]
    rw [e]
    refine ⟨by unfold vs; omega, decide_eq_false (by omega), ?_, ?_⟩
    · unfold pa; rw [if_neg (by omega), if_pos (by omega)]; omega
    · unfold kx; rw [if_neg (by omega), if_pos (by omega)]; omega
  · by_cases c2 : t = 2001
    · have e : chS t k = 2100 + k := by unfold chS; rw [if_neg c1, if_pos c2]
      rw [e]
      refine ⟨by unfold vs; omega, decide_eq_false (by omega), ?_, ?_⟩
      · unfold pa; rw [if_pos (by omega)]; omega
      · unfold kx; rw [if_pos (by omega)]; omega
    · have e : chS t k = 40 + (t - 2100) * 32 + k := by unfold chS; rw [if_neg c1, if_neg c2]
      rw [e]
      refine ⟨by unfold vs; omega, decide_eq_false (by omega), ?_, ?_⟩
      · unfold pa; rw [if_neg (by omega), if_neg (by omega)]; omega
      · unfold kx; rw [if_neg (by omega), if_neg (by omega)]; omega
/-- a table's pointers are places -/
theorem pt_slo (hT : TI w A) {r k : Nat} (hr : r < 2000) (hu : us A r) (h2 : 2000 ≤ (w r).2) (hk : k < 32) : slo A (w r).1 (chS (w r).2 k) = pt A r k := by
  obtain ⟨-, q2, -, q4, q5⟩ := hT.1 r hr hu
  obtain ⟨c1, c2, c3, c4⟩ := chS_ok q4 h2 hk
  have := (slo_n (A := A) (n := (w r).1) c1 c2).1
  rw [c3, c4, q5, if_neg (by omega), show r + 1 - 1 = r by omega] at this
  exact this
theorem pt_us (hT : TI w A) {r k y : Nat} (hr : r < 2000) (hu : us A r) (h2 : 2000 ≤ (w r).2) (hk : k < 32) (h : pt A r k = y + 1) : us A y := by
  obtain ⟨-, q2, -, q4, -⟩ := hT.1 r hr hu
  have := pt_slo hT hr hu h2 hk
  rw [h] at this
  exact (hT.2.1 _ _ y q2 (chS_ok q4 h2 hk).1 this).2.1
theorem nd_us (hT : TI w A) {n' i y : Nat} (hn : n' < 64) (hi : i < 10) (h : nd A n' (85 + i) = y + 1) : us A y := by
  obtain ⟨s, hs, hv, e⟩ : ∃ s, rs s = true ∧ vs s ∧ ro s = 85 + i := by
    by_cases c : i < 8
    · exact ⟨i, decide_eq_true (Or.inl c), by unfold vs; omega, by unfold ro; rw [if_neg (by omega), if_neg (by omega)]⟩
    · by_cases c2 : i = 8
      · exact ⟨2000, rfl, by unfold vs; omega, by rw [c2]; rfl⟩
      · exact ⟨2001, rfl, by unfold vs; omega, by rw [show i = 9 by omega]; rfl⟩
  have := slo_r (A := A) (n := n') hs
  rw [e, h] at this
  exact (hT.2.1 n' s y hn hv this).2.1
theorem pw_lt (hV : pW A W V n s g r0 b z) (hs : rs s = false ∨ True) {q : Nat} (h1 : q < 64) (hn : n < 64) (hv : vs s) : V q = if q = 32 + r0 / 64 then setF (W q) (r0 % 64) 1 b else W q := by
  rw [hV, if_neg, if_neg (by omega)]
  cases c : rs s with
  | true => rw [lw_r c]; omega
  | false => rw [lw_n c]; omega
theorem pw_nd (hV : pW A W V n s g r0 b z) (hn : n < 64) (hr : r0 < 2000) {n' i : Nat} (hn' : n' < 64) (hi : i < 16) : V (64 + n' * 16 + i) = if rs s = true ∧ n' = n ∧ i = ro s - 84 then g else W (64 + n' * 16 + i) := by
  rw [hV]
  cases c : rs s with
  | true =>
    have := ro_lt c
    rw [lw_r c]
    by_cases d : n' = n ∧ i = ro s - 84
    · rw [if_pos (by rw [d.1, d.2]), if_pos ⟨rfl, d⟩]
    · rw [if_neg (by omega), if_neg (by omega), if_neg (by omega), if_neg (show ¬ (true = true ∧ n' = n ∧ i = ro s - 84) from fun q => d q.2)]
  | false =>
    rw [lw_n c, if_neg (by omega), if_neg (by omega), if_neg (by omega), if_neg (fun q => by cases q.1)]
theorem pw_bl (hV : pW A W V n s g r0 b z) (hn : n < 64) (hv : vs s) (hr0 : r0 < 2000) {r k : Nat} (hk : k < 32) : V ((34 + r) * 32 + k) = if rs s = false ∧ r = slo A n (pa s) - 1 ∧ k = kx s then g else if z = true ∧ r = r0 then 0 else W ((34 + r) * 32 + k) := by
  rw [hV]
  cases c : rs s with
  | true =>
    have := ro_lt c
    rw [lw_r c, if_neg (by omega), if_neg (show ¬ (true = false ∧ _) from fun q => by cases q.1)]
    by_cases d : z = true ∧ r = r0
    · rw [if_pos (by rw [d.2]; exact ⟨d.1, by omega, by omega⟩), if_pos d]
    · rw [if_neg (fun q => d ⟨q.1, by omega⟩), if_neg d, if_neg (by omega)]
  | false =>
    have l := (slo_n (A := A) (n := n) hv c).2.2.2.1
    rw [lw_n c]
    by_cases e : r = slo A n (pa s) - 1 ∧ k = kx s
    · rw [if_pos (by rw [← e.1, ← e.2]), if_pos ⟨rfl, e⟩]
    · rw [if_neg (by omega), if_neg (show ¬ (false = false ∧ _) from fun q => e q.2)]
      by_cases d : z = true ∧ r = r0
      · rw [if_pos (by rw [d.2]; exact ⟨d.1, by omega, by omega⟩), if_pos d]
      · rw [if_neg (fun q => d ⟨q.1, by omega⟩), if_neg d, if_neg (by omega)]
theorem oW_e {c i d j : Nat} (h1 : V (c * 32 + i / 8) = W (d * 32 + j / 8)) (h2 : i % 8 = j % 8) : oW V c i = oW W d j := by
  unfold oW
  rw [h1, h2]
/-- births with a new one -/
theorem pv_new (hB : ptB A B n s x r0 u v) (hn : n < 64) (hv : vs s) {bi' : Nat → Nat} (hbi : ∀ y, y ≠ v → bi' y = bi y) (hne : ∀ r, r < 2000 → us A r → se A r ≠ v) {y : Nat} (hy : y = 0 ∨ ∃ r, y = r + 1 ∧ r < 2000 ∧ us A r ∧ r ≠ r0) : pv bi' B y = pv bi A y := by
  rcases hy with rfl | ⟨r, rfl, h1, h2, h3⟩
  · unfold pv
    rw [if_pos rfl, if_pos rfl]
  · unfold pv
    rw [if_neg (by omega), if_neg (by omega), show r + 1 - 1 = r by omega, pf_se hB hn hv, if_neg h3, hbi _ (hne r h1 h2)]
theorem EW_o {r k : Nat} (hk : k < 8) (h : EW W A r k) (he : ∀ i, i < 30 → eZ B r k i = eZ A r k i) (hl : eZ A r k 1 ≤ 28) (hw : ∀ i, i < 32 → V ((34 + r) * 32 + i) = W ((34 + r) * 32 + i)) : EW V B r k := by
  have ho : ∀ i, i < 256 → oW V (34 + r) i = oW W (34 + r) i := fun i hi => oW_e (hw (i / 8) (by omega)) rfl
  obtain ⟨h1, h2⟩ := h
  unfold EW
  rw [he 0 (by omega), he 1 (by omega)]
  refine ⟨fun c i hi => ?_, fun c => ?_⟩
  · rw [show (34 + r) * 32 + k * 4 + i = (34 + r) * 32 + (k * 4 + i) by omega, hw _ (by omega), ← show (34 + r) * 32 + k * 4 + i = (34 + r) * 32 + (k * 4 + i) by omega]
    exact h1 c i hi
  · obtain ⟨g1, g2, g3⟩ := h2 c
    rw [ho _ (by omega), ho _ (by omega)]
    exact ⟨g1, g2, fun i hi => by rw [ho _ (by omega), he (2 + i) (by omega)]; exact g3 i hi⟩
/-- META's words with a new block -/
theorem MR_att (hM : MR bi w W A) (hT : TI w A) (hO : okT A) (hB : ptB A B n s (r0 + 1) r0 1 v) (hn : n < 64) (hkd : nd A n 0 = 1 ∨ nd A n 0 = 2) (hv : vs s) (hp : rs s = false → slo A n (pa s) ≠ 0) (hr2 : r0 < 2000) (hu : ¬ us A r0)
    {bi' : Nat → Nat} (hbi : ∀ y, y ≠ v → bi' y = bi y) (hne : ∀ r, r < 2000 → us A r → se A r ≠ v) (hV : pW A W V n s (bi' v * 65536 + (34 + r0)) r0 1 true) : MR bi' (upW2 w r0 (n, s)) V B := by
  obtain ⟨m1, m2, m3, m4⟩ := hM
  have hne0 : ∀ r, r < 2000 → us A r → r ≠ r0 := fun r _ h e => hu (e ▸ h)
  have pvN : pv bi' B (r0 + 1) = bi' v * 65536 + (34 + r0) := by
    unfold pv
    rw [if_neg (by omega), show r0 + 1 - 1 = r0 by omega, pf_se hB hn hv, if_pos rfl]
    omega
  have pvO : ∀ {y : Nat}, (y = 0 ∨ ∃ r, y = r + 1 ∧ r < 2000 ∧ us A r) → pv bi' B y = pv bi A y := fun {y} h => by
    refine pv_new hB hn hv hbi hne ?_
    rcases h with h | ⟨r, a, b, c⟩
    · exact Or.inl h
    · exact Or.inr ⟨r, a, b, c, hne0 r b c⟩
  have ws : upW2 w r0 (n, s) r0 = (n, s) := by unfold upW2; rw [if_pos rfl]
  have wo : ∀ r, r ≠ r0 → upW2 w r0 (n, s) r = w r := fun r q => by unfold upW2; rw [if_neg q]
  refine ⟨fun j hj => ?_, fun r hr => ?_, fun n' hn' => ?_, fun r hr hur => ?_⟩
  · rw [pw_lt hV (Or.inr trivial) (by omega) hn hv, if_neg (by omega)]
    exact m1 j hj
  · rw [pw_lt hV (Or.inr trivial) (by omega) hn hv, pf_us hB hn hv]
    have o := m2 r hr
    by_cases c : 32 + r / 64 = 32 + r0 / 64
    · rw [if_pos c]
      by_cases d : r = r0
      · rw [if_pos d, if_pos (by omega), d]
        exact setF_same (d := 1) (by decide)
      · rw [if_neg d]
        have : (setF (W (32 + r / 64)) (r0 % 64) 1 1) / 2 ^ (r % 64) % 2 ^ 1 = W (32 + r / 64) / 2 ^ (r % 64) % 2 ^ 1 := setF_other (by decide) (by omega)
        exact this.trans o
    · rw [if_neg c, if_neg (show ¬ r = r0 from fun e => c (by rw [e]))]
      exact o
  · obtain ⟨a1, a2, a3, a4⟩ := m3 n' hn'
    have lo : ∀ i, i < 85 → nd B n' i = nd A n' i := fun i hi => pf_lo hB hn hv hn' hi
    have wd : ∀ i, i < 16 → V (64 + n' * 16 + i) = if rs s = true ∧ n' = n ∧ i = ro s - 84 then bi' v * 65536 + (34 + r0) else W (64 + n' * 16 + i) := fun i hi => pw_nd hV hn hr2 hn' hi
    unfold NW
    rw [lo 0 (by omega), lo 1 (by omega), lo 2 (by omega), lo 3 (by omega), lo 4 (by omega)]
    refine ⟨?_, fun c i hi => ?_, fun c i hi => ?_, fun c i hi => ?_⟩
    · have e0 := wd 0 (by omega)
      rw [if_neg (fun q => by have := ro_lt q.1; omega)] at e0
      rw [show 64 + n' * 16 = 64 + n' * 16 + 0 from rfl, e0]
      exact a1
    · have b4 := (nd_k hO hn').2.2.2.2
      rw [lo (5 + i) (by omega), ← a2 c i hi]
      refine oW_e ?_ rfl
      have e0 := wd (1 + i / 8) (by omega)
      rw [if_neg (fun q => by rw [q.2.1] at c; omega)] at e0
      rw [show (2 + n' / 2) * 32 + ((n' % 2 * 16 + 1) * 8 + i) / 8 = 64 + n' * 16 + (1 + i / 8) by omega]
      exact e0
    · rw [wd (1 + i) (by omega), pf_nd hB hn' (by omega)]
      cases cr : rs s with
      | true =>
        have l := ro_lt cr
        rw [lc_r cr]
        by_cases d : n' = n ∧ 1 + i = ro s - 84
        · rw [if_pos ⟨rfl, d⟩, if_pos (by omega), pvN]
        · rw [if_neg (fun q => d q.2), if_neg (by omega), a3 c i hi]
          refine (pvO ?_).symm
          by_cases y : nd A n' (85 + i) = 0
          · exact Or.inl y
          · obtain ⟨r, hr⟩ : ∃ r, nd A n' (85 + i) = r + 1 := ⟨nd A n' (85 + i) - 1, by omega⟩
            have := nd_le hO hn' (w := 85 + i) (by omega) (by omega)
            exact Or.inr ⟨r, hr, by omega, nd_us hT hn' hi hr⟩
      | false =>
        rw [lc_n cr, if_neg (fun q => by cases q.1), if_neg (by omega), a3 c i hi]
        refine (pvO ?_).symm
        by_cases y : nd A n' (85 + i) = 0
        · exact Or.inl y
        · obtain ⟨r, hr⟩ : ∃ r, nd A n' (85 + i) = r + 1 := ⟨nd A n' (85 + i) - 1, by omega⟩
          have := nd_le hO hn' (w := 85 + i) (by omega) (by omega)
          exact Or.inr ⟨r, hr, by omega, nd_us hT hn' hi hr⟩
    · rw [wd i hi, if_neg (fun q => by rw [q.2.1] at c; omega)]
      exact a4 c i hi
  · have bl : ∀ k, k < 32 → V ((34 + r) * 32 + k) = _ := fun k hk => pw_bl hV hn hv hr2 (r := r) hk
    by_cases e : r = r0
    · subst e
      have z0 : ∀ k, k < 32 → pt A r k = 0 := hT.2.2.2.1 r hr (fun q => absurd q hu)
      have ny : ∀ k, k < 32 → ¬ (rs s = false ∧ r = slo A n (pa s) - 1 ∧ k = kx s) := by
        intro k hk q
        obtain ⟨f1, f2, f3, f4, f5⟩ := slo_n (A := A) (n := n) hv q.1
        have hp := hp q.1
        obtain ⟨y, hy⟩ : ∃ y, slo A n (pa s) = y + 1 := ⟨slo A n (pa s) - 1, by omega⟩
        have u := (hT.2.1 n (pa s) y hn f2 hy).2.1
        have : y = r := by omega
        exact hu (this ▸ u)
      have v0 : ∀ k, k < 32 → V ((34 + r) * 32 + k) = 0 := fun k hk => by rw [bl k hk, if_neg (ny k hk), if_pos ⟨rfl, rfl⟩]
      refine ⟨fun _ k hk => ?_, fun _ _ k hk => ?_⟩
      · rw [v0 k hk, pf_pt hB hk, if_neg (fun q => hu (pf_tb hT hn hv hp hk q).2.2.1), z0 k hk]
        rfl
      · have e64 := hT.2.2.2.2 r hr (fun q => absurd q hu) k hk
        unfold EW
        rw [pf_eZ hB hn hv hk (by omega)]
        refine ⟨fun _ i hi => ?_, fun q => absurd e64 q⟩
        rw [show (34 + r) * 32 + k * 4 + i = (34 + r) * 32 + (k * 4 + i) by omega]
        exact v0 _ (by omega)
    · have hua : us A r := by
        unfold us at hur ⊢
        rwa [pf_us hB hn hv, if_neg e] at hur
      obtain ⟨b1, b2⟩ := m4 r hr hua
      unfold BW
      rw [wo r e]
      refine ⟨fun c k hk => ?_, fun c d k hk2 => ?_⟩
      · rw [bl k hk, pf_pt hB hk]
        have E : (rs s = false ∧ r = slo A n (pa s) - 1 ∧ k = kx s) ↔ 6080 + r * 274 + (2 + k) = lcA A n s := by
          constructor
          · intro q
            rw [lc_n q.1, ← q.2.1, ← q.2.2]
          · intro q
            have t := pf_tb hT hn hv hp hk q
            rw [lc_n t.1] at q
            have l := (slo_n (A := A) (n := n) hv t.1).2.2.2.1
            exact ⟨t.1, by omega, t.2.2.2.2.2⟩
        by_cases q : 6080 + r * 274 + (2 + k) = lcA A n s
        · rw [if_pos (E.mpr q), if_pos q, pvN]
        · rw [if_neg (fun y => q (E.mp y)), if_neg q, if_neg (fun y => e y.2), b1 c k hk]
          refine (pvO ?_).symm
          by_cases y : pt A r k = 0
          · exact Or.inl y
          · obtain ⟨x, hx⟩ : ∃ x, pt A r k = x + 1 := ⟨pt A r k - 1, by omega⟩
            have := pt_le hO r hk
            exact Or.inr ⟨x, hx, by omega, pt_us hT hr hua c hk hx⟩
      · rw [pf_lo hB hn hv (hT.1 r hr hua).2.1 (by omega)] at d
        refine EW_o hk2 (b2 c d k hk2) (fun i hi => pf_eZ hB hn hv hk2 hi) (by have := (eZ_lt hO (r := r) hk2).2.1; omega) (fun i hi => ?_)
        rw [bl i hi, if_neg, if_neg (fun y => e y.2)]
        intro q
        obtain ⟨f1, f2, f3, f4, f5⟩ := slo_n (A := A) (n := n) hv q.1
        have hp := hp q.1
        obtain ⟨y, hy⟩ : ∃ y, slo A n (pa s) = y + 1 := ⟨slo A n (pa s) - 1, by omega⟩
        have u := (hT.2.1 n (pa s) y hn f2 hy).2.2
        rw [show y = r by omega] at u
        rw [u] at c
        have : pa s < 2000 := c
        omega
end MRP
