/-! ===== PURE: an entry less: what it does to the tree ===== -/
section REF
variable {bi : Nat → Nat} {w w' : Nat → Nat × Nat} {C X A B : tS} {t n m k d r : Nat}
theorem rml_fx (hd : d < 64) : ∀ m (C A : tS), SR bi w C A → nd A d 0 = 2 → m ≤ 1064 → (∀ i, i < m → hasA A d i ≠ 0) →
    ∃ c, c ≤ m ∧ (c = m → remL d m A = A) ∧ (c < m → nd (remL d m A) d 1 = 256 * c) ∧ (∀ i, i < c → hasA (remL d m A) d i = hasA A d i) ∧ (∀ i, c ≤ i → i < m → (∀ r, hasA A d i = r + 1 → ∀ k, k < 8 → eZ A r k 0 = 64) ∧ hasA (remL d m A) d i = 0) ∧ (∀ r, 0 < c → hasA A d (c - 1) = r + 1 → ∃ k, k < 8 ∧ eZ A r k 0 ≠ 64) ∧ (∀ n' s', n' < 64 → vs s' → n' ≠ d → slo (remL d m A) n' s' = slo A n' s') ∧ (∀ i, m ≤ i → i < 1064 → hasA A d i = 0 → hasA (remL d m A) d i = 0) ∧ KP A (remL d m A)
  | 0, C, A, h, _, _, _ => ⟨0, Nat.le_refl _, fun _ => rfl, fun q => by omega, fun i hi => by omega, fun i _ hi => by omega, fun r q => by omega, fun _ _ _ _ _ => rfl, fun _ _ _ q => q, KP_r⟩
  | m + 1, C, A, h, hk2, hm, hh => by
    obtain ⟨r, hr⟩ : ∃ r, hasA A d m = r + 1 := by
      have := hh m (by omega)
      exact ⟨hasA A d m - 1, by omega⟩
    by_cases c : bareA A d m = true
    · have bz := (bare_iff hr).mp c
      obtain ⟨g1, g2, g3, g4, g5⟩ := SR_drop (i := m) h hd (Or.inr hk2) (by omega) (fun _ r' hr' => by rw [hr] at hr'; rw [show r' = r by omega]; exact bz)
      have k0 : nd (dropA A d m) d 0 = 2 := by rw [g4.2.2.2.1 d 0 hd (by omega)]; exact hk2
      obtain ⟨a0, a1⟩ := hd_c g1.ok g1.mr hd
      obtain ⟨a1, a2, a3⟩ := a1 (by omega)
      obtain ⟨r1, r2, r3, r4, r5⟩ := setN_r (A := dropA A d m) (n := d) (v := 256 * m) (x := 1) hd (by omega) (by omega)
      have H : SR bi w (shC (drT C d m) d (kiC (drT C d m) d) (naC (drT C d m) d) (prC (drT C d m) d) (m * 256)) (setN (dropA A d m) d 1 (256 * m)) := by
        refine SR_hdr g1 hd r1 r2 r3 (by omega) (okT_sz g1.ok hd (by omega)) ?_ ?_ ?_ ?_
        · rw [a0, r4 d 0 (by omega), if_neg (by omega)]
        · rw [a1, r4 d 2 (by omega), if_neg (by omega)]
        · rw [a2, r4 d 3 (by omega), if_neg (by omega)]
        · have x0 : nd (setN (dropA A d m) d 1 (256 * m)) d 0 = 2 := by rw [r4 d 0 (by omega), if_neg (by omega)]; exact k0
          have x1 : nd (setN (dropA A d m) d 1 (256 * m)) d 1 = 256 * m := by rw [r4 d 1 (by omega), if_pos ⟨rfl, rfl⟩]
          rw [x0, x1, if_neg (by decide)]
          omega
      have kp : KP A (setN (dropA A d m) d 1 (256 * m)) := KP_t (KP_drop hd (by omega)) (KP_N hd (Or.inl rfl))
      have hs : ∀ i, i < 1064 → i ≠ m → hasA (setN (dropA A d m) d 1 (256 * m)) d i = hasA A d i := fun i hi hne => by
        rw [← hs_slo hi, r5 d i hd (Or.inl hi), ← hs_slo (A := A) hi]
        rcases g3 d i hd (Or.inl hi) with q | ⟨-, -, q⟩
        · exact q
        · omega
      have hm0 : hasA (setN (dropA A d m) d 1 (256 * m)) d m = 0 := by
        rw [← hs_slo (by omega), r5 d m hd (Or.inl (by omega))]
        exact g2
      obtain ⟨e, i1, i2, i3, i4, i5, i6, i7, i8, i9⟩ := rml_fx hd m _ _ H (by rw [r4 d 0 (by omega), if_neg (by omega)]; exact k0) (by omega) (fun i hi => by rw [hs i (by omega) (by omega)]; exact hh i (by omega))
      have eR : remL d (m + 1) A = remL d m (setN (dropA A d m) d 1 (256 * m)) := by
        show (if bareA A d m then remL d m (setN (dropA A d m) d 1 (256 * m)) else A) = _
        rw [if_pos c]
      rw [eR]
      refine ⟨e, by omega, fun q => by omega, fun _ => ?_, fun i hi => ?_, fun i q1 q2 => ?_, fun r' q1 q2 => ?_, fun n' s' a b q => ?_, fun i q1 q2 q3 => ?_, KP_t kp i9⟩
      · by_cases q : e < m
        · exact i3 q
        · have em : e = m := by omega
          rw [i2 em, r4 d 1 (by omega), if_pos ⟨rfl, rfl⟩, em]
      · rw [i4 i hi, hs i (by omega) (by omega)]
      · by_cases q : i = m
        · rw [q]
          refine ⟨fun r' hr' => ?_, i8 m (Nat.le_refl _) (by omega) hm0⟩
          rw [hr] at hr'
          rw [show r' = r by omega]
          exact bz
        · obtain ⟨y1, y2⟩ := i5 i q1 (by omega)
          refine ⟨fun r' hr' k hk => ?_, y2⟩
          have := y1 r' (by rw [hs i (by omega) q]; exact hr') k hk
          rwa [kp.ez _ hk (by omega)] at this
      · obtain ⟨k, y1, y2⟩ := i6 r' q1 (by rw [hs _ (by omega) (by omega)]; exact q2)
        exact ⟨k, y1, by rwa [kp.ez _ y1 (by omega)] at y2⟩
      · rw [i7 n' s' a b q, r5 n' s' a b]
        rcases g3 n' s' a b with y | ⟨y, -, -⟩
        · exact y
        · exact absurd y q
      · exact i8 i (by omega) q2 (by rw [hs i q2 (by omega)]; exact q3)
    · have eR : remL d (m + 1) A = A := by
        show (if bareA A d m then remL d m (setN (dropA A d m) d 1 (256 * m)) else A) = _
        rw [if_neg c]
      rw [eR]
      refine ⟨m + 1, Nat.le_refl _, fun _ => rfl, fun q => by omega, fun i _ => rfl, fun i q1 q2 => by omega, fun r' _ q2 => ?_, fun _ _ _ _ _ => rfl, fun _ _ _ q => q, KP_r⟩
      have q2 : hasA A d m = r' + 1 := q2
      refine Classical.byContradiction (fun q => c ((bare_iff q2).mpr (fun k hk => Classical.byContradiction (fun q' => q ⟨k, hk, q'⟩))))
theorem rem_all (h : SR bi w C A) (hF : TF A) (hD : DI w A) (hd : d < 64) (h2 : nd A d 0 = 2) (hk : k < eAll A d) :
    SR bi w (rmEn C d k) (remA A d k) ∧ TF (remA A d k) ∧ DI w (remA A d k) ∧ KR A (remA A d k) ∧ (∀ n' j, n' < 64 → j < 85 → ¬ (n' = d ∧ j = 1) → nd (remA A d k) n' j = nd A n' j) ∧ (nd (remA A d k) d 1 ≤ nd A d 1 ∧ (0 < nd (remA A d k) d 1 → ∃ b, eAll (remA A d k) d ≤ b + 8 ∧ ev (remA A d k) d b ≠ 64)) ∧ (∀ a b, ev (remA A d k) a b = if a = d ∧ b = k then 64 else ev A a b) := by
  obtain ⟨z1, z2, z3⟩ := hD.1 d hd h2
  have bz := (nd_k h.ok hd).2.1
  obtain ⟨l1, l2⟩ := eA_lt h.ok hd hk
  obtain ⟨r, hr⟩ : ∃ r, hasA A d (k / 8) = r + 1 := by
    have := z3 (k / 8) l1
    exact ⟨hasA A d (k / 8) - 1, by omega⟩
  obtain ⟨x1, x2, x3, x4, x5, x6, x7⟩ := SR_rem h hD hd h2 hk
  obtain ⟨g1, g2, g3, g4, g5⟩ := SR_clr h hd h2 l2 hr
  obtain ⟨r2, ur, wr⟩ := h.ti.2.1 d (k / 8) r hd (Or.inl l2) (by rw [hs_slo l2]; exact hr)
  have krP : KR A (putE A d k 64) := ⟨fun o a b c => g5 o b (by omega), fun q _ => by rw [g5 35 (by decide) (by decide)], by rw [g5 35 (by decide) (by decide)]; exact Nat.le_refl _⟩
  have hs0 : ∀ a i, a < 64 → i < 1064 → hasA (putE A d k 64) a i = hasA A a i := fun a i ha hi => by rw [← hs_slo hi, g4 a i ha (Or.inl hi), hs_slo hi]
  have e1 : nd (putE A d k 64) d 1 = nd A d 1 := g3 d 1 hd (by omega)
  obtain ⟨c, c1, c2, c3, c4, c5, c6, c7, c8, c9⟩ := rml_fx (bi := bi) (w := w) hd (nd A d 1 / 256) _ _ g1 (by rw [g3 d 0 hd (by omega)]; exact h2) (by omega) (fun i hi => by rw [hs0 d i hd (by omega)]; exact z3 i hi)
  have eR : remA A d k = remL d (nd A d 1 / 256) (putE A d k 64) := by
    unfold remA
    rw [e1]
  rw [← eR] at c2 c3 c4 c5 c7 c8 c9
  have krB : KR A (remA A d k) := KR_t krP c9.kr
  have sB : nd (remA A d k) d 1 = 256 * c := by
    by_cases q : c < nd A d 1 / 256
    · exact c3 q
    · have : c = nd A d 1 / 256 := by omega
      rw [c2 this, e1]
      omega
  generalize hB : remA A d k = B at *
  have K0 : ∀ m, m < 64 → nd B m 0 = nd A m 0 := fun m hm => x6 m 0 hm (by omega) (by omega)
  have hsN : ∀ a i, a < 64 → a ≠ d → i < 1064 → hasA B a i = hasA A a i := fun a i ha q hi => by
    have := c7 a i ha (Or.inl hi) q
    rw [hs_slo hi, hs_slo hi, hs0 a i ha hi] at this
    exact this
  have hsD : ∀ i, i < c → hasA B d i = hasA A d i := fun i hi => by rw [c4 i hi, hs0 d i hd (by omega)]
  -- the words of an entry
  have ent : ∀ a b, a < 64 → b / 8 < 1064 → hasA B a (b / 8) = hasA A a (b / 8) → hasA A a (b / 8) ≠ 0 → eN B a b = (if a = d ∧ b = k then 64 else eN A a b) ∧ eL B a b = eL A a b := fun a b ha hb8 hq hne => by
    obtain ⟨x, hx⟩ : ∃ x, hasA A a (b / 8) = x + 1 := ⟨hasA A a (b / 8) - 1, by omega⟩
    obtain ⟨y2, uy, wy⟩ := h.ti.2.1 a (b / 8) x ha (Or.inl hb8) (by rw [hs_slo hb8]; exact hx)
    rw [eN_z, eN_z, eL_z, eL_z, hq, hx, Nat.add_sub_cancel, x7 x _ 0 y2 (by omega) (by omega), x7 x _ 1 y2 (by omega) (by omega), if_neg (show ¬ (x + 1 = hasA A d (k / 8) ∧ b % 8 = k % 8 ∧ (1 : Nat) = 0) from fun q => by have := q.2.2; omega)]
    refine ⟨?_, rfl⟩
    by_cases q : a = d ∧ b = k
    · rw [if_pos q, if_pos ⟨by rw [← hx, q.1, q.2], by rw [q.2], rfl⟩]
    · rw [if_neg q, if_neg (fun y => q ?_)]
      have xr : x = r := by
        have := y.1
        omega
      rw [xr, wr] at wy
      have p1 : d = a := congrArg Prod.fst wy
      have p2 : k / 8 = b / 8 := congrArg Prod.snd wy
      exact ⟨p1.symm, by have := y.2.1; omega⟩
  have eB : eAll B d = c * 8 := by
    unfold eAll
    rw [sB]
    omega
  have evB : ∀ a b, ev B a b = if a = d ∧ b = k then 64 else ev A a b := fun a b => by
    by_cases ha : a < 64
    · by_cases h2a : nd A a 0 = 2
      · by_cases ad : a = d
        · subst ad
          by_cases hb : b < c * 8
          · have hbA : b < eAll A a := by
              unfold eAll
              omega
            have e := ent a b ha (by omega) (hsD _ (by omega)) (z3 _ (by omega))
            rw [ev_at ha (by rw [K0 a ha]; exact h2a) (by rw [eB]; exact hb), ev_at ha h2a hbA]
            exact e.1
          · have v1 : ev B a b = 64 := by
              unfold ev
              rw [eB, if_neg (fun q => hb q.2.2)]
            rw [v1]
            by_cases q : a = a ∧ b = k
            · rw [if_pos q]
            · rw [if_neg q]
              by_cases hbA : b < eAll A a
              · obtain ⟨m1, m2⟩ := eA_lt h.ok ha hbA
                obtain ⟨x, hx⟩ : ∃ x, hasA A a (b / 8) = x + 1 := ⟨hasA A a (b / 8) - 1, by have := z3 _ m1; omega⟩
                obtain ⟨y2, uy, wy⟩ := h.ti.2.1 a (b / 8) x ha (Or.inl m2) (by rw [hs_slo m2]; exact hx)
                have := (c5 (b / 8) (by omega) m1).1 x (by rw [hs0 a _ ha m2]; exact hx) (b % 8) (by omega)
                rw [g2 x (b % 8) 0 y2 (by omega) (by omega)] at this
                rw [ev_at ha h2a hbA, eN_z, hx, Nat.add_sub_cancel]
                by_cases y : x = r ∧ b % 8 = k % 8 ∧ (0 : Nat) = 0
                · rw [y.1, wr] at wy
                  have p2 : k / 8 = b / 8 := congrArg Prod.snd wy
                  exact absurd ⟨rfl, by have := y.2.1; omega⟩ q
                · rw [if_neg y] at this
                  exact this.symm
              · unfold ev
                rw [if_neg (fun q => hbA q.2.2)]
        · rw [if_neg (fun q => ad q.1)]
          have s1 : nd B a 1 = nd A a 1 := x6 a 1 ha (by omega) (fun q => ad q.1)
          unfold ev eAll
          rw [K0 a ha, s1]
          by_cases q : a < 64 ∧ nd A a 0 = 2 ∧ b < nd A a 1 / 256 * 8
          · rw [if_pos q, if_pos q]
            obtain ⟨m1, m2⟩ := eA_lt h.ok ha q.2.2
            have := (ent a b ha m2 (hsN a _ ha ad m2) ((hD.1 a ha h2a).2.2 _ m1)).1
            rw [this, if_neg (fun q => ad q.1)]
          · rw [if_neg q, if_neg q]
      · rw [if_neg (fun q => h2a (by rw [q.1]; exact h2))]
        unfold ev
        rw [K0 a ha, if_neg (fun q => h2a q.2.1), if_neg (fun q => h2a q.2.1)]
    · rw [ev_64 ha, ev_64 ha]
      split <;> rfl
  have tfB := x2 hF
  refine ⟨x1, tfB, ⟨fun a ha h2a => ?_, fun a b ha h2a hb hne => ?_, fun m hm h3 => ?_, fun m hm h12 i hi hsz => ?_, di5 x1.ti tfB⟩, krB, x6, ⟨by rw [sB]; omega, fun q => ?_⟩, evB⟩
  · rw [K0 a ha] at h2a
    obtain ⟨p1, p2, p3⟩ := hD.1 a ha h2a
    have b3 := (nd_k h.ok ha).2.2.2.1
    have ba := (nd_k h.ok ha).2.1
    rw [x6 a 3 ha (by omega) (by omega), K0 _ b3]
    by_cases ad : a = d
    · rw [ad, sB]
      rw [ad] at p2
      refine ⟨by omega, p2, fun i hi => ?_⟩
      rw [hsD i (by omega)]
      exact z3 i (by omega)
    · rw [x6 a 1 ha (by omega) (fun q => ad q.1)]
      exact ⟨p1, p2, fun i hi => by rw [hsN a i ha ad (by omega)]; exact p3 i hi⟩
  · have h2A : nd A a 0 = 2 := by rw [← K0 a ha]; exact h2a
    have e0 : ev B a b ≠ 64 := by rw [ev_at ha h2a hb]; exact hne
    have e1 := evB a b
    have nk : ¬ (a = d ∧ b = k) := fun q => by
      rw [if_pos q] at e1
      exact e0 e1
    rw [if_neg nk] at e1
    rw [e1] at e0
    obtain ⟨y1, y2, y3, y4⟩ := ev_lt e0
    obtain ⟨m1, m2⟩ := eA_lt h.ok ha y3
    have hq : hasA B a (b / 8) = hasA A a (b / 8) := by
      by_cases ad : a = d
      · rw [ad]
        rw [ad, eB] at hb
        exact hsD _ (by omega)
      · exact hsN a _ ha ad m2
    obtain ⟨f1, f2⟩ := ent a b ha m2 hq ((hD.1 a ha h2A).2.2 _ m1)
    rw [if_neg nk] at f1
    rw [f1, f2]
    rw [f1] at hne
    have l := eN_lt h.ok a b
    rw [K0 _ (by omega)]
    exact hD.2.1 a b ha h2A y3 hne
  · rw [K0 m hm] at h3
    have md : m ≠ d := fun e => by rw [e] at h3; omega
    rw [x6 m 1 hm (by omega) (fun q => md q.1), x6 m 4 hm (by omega) (by omega)]
    exact hD.2.2.1 m hm h3
  · rw [K0 m hm] at h12
    by_cases md : m = d
    · rw [md, sB] at hsz
      rw [md]
      by_cases q : i < nd A d 1 / 256
      · exact (c5 i (by omega) q).2
      · refine c8 i (by omega) hi ?_
        rw [hs0 d i hd hi]
        exact hD.2.2.2.1 d hd (Or.inr h2) i hi (by omega)
    · rw [x6 m 1 hm (by omega) (fun q => md q.1)] at hsz
      rw [hsN m i hm md hi]
      exact hD.2.2.2.1 m hm h12 i hi hsz
  · rw [sB] at q
    obtain ⟨x, hx⟩ : ∃ x, hasA A d (c - 1) = x + 1 := ⟨hasA A d (c - 1) - 1, by have := z3 (c - 1) (by omega); omega⟩
    obtain ⟨k', k1, k2⟩ := c6 x (by omega) (by rw [hs0 d _ hd (by omega)]; exact hx)
    refine ⟨(c - 1) * 8 + k', by rw [eB]; omega, ?_⟩
    rw [ev_at hd (by rw [K0 d hd]; exact h2) (by rw [eB]; omega), eN_z, show ((c - 1) * 8 + k') / 8 = c - 1 by omega, show ((c - 1) * 8 + k') % 8 = k' by omega, hsD _ (by omega), hx, Nat.add_sub_cancel, c9.ez _ k1 (by omega)]
    exact k2
end REF
