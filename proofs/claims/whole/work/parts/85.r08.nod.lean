/-! ===== PURE: a node's own words; a node more ===== -/
section NOD
variable {bi : Nat → Nat} {w w' : Nat → Nat × Nat} {C X A B : tS} {t n m k d r x j v : Nat}
/-- the same blocks, the same entries -/
theorem sm_ev (ho : okT A) (hD : DI w A) (h1 : ∀ a, a < 64 → nd A a 0 = 2 → nd B a 1 = nd A a 1) (h0 : ∀ a, a < 64 → ((nd B a 0 = 2 ∧ 0 < nd B a 1) ↔ (nd A a 0 = 2 ∧ 0 < nd A a 1))) (hs : ∀ a i, a < 64 → i < 1064 → hasA B a i = hasA A a i) (hz : ∀ r k i, k < 8 → i < 30 → eZ B r k i = eZ A r k i) : (∀ a b, ev B a b = ev A a b) ∧ ∀ a b, a < 64 → b / 8 < 1064 → eN B a b = eN A a b ∧ eL B a b = eL A a b := by
  have ee : ∀ a b, a < 64 → b / 8 < 1064 → eN B a b = eN A a b ∧ eL B a b = eL A a b := fun a b ha hb => by
    rw [eN_z, eN_z, eL_z, eL_z, hs a _ ha hb, hz _ _ _ (by omega) (by omega), hz _ _ _ (by omega) (by omega)]
    exact ⟨rfl, rfl⟩
  refine ⟨fun a b => ?_, ee⟩
  by_cases ha : a < 64
  · have q := h0 a ha
    by_cases c : nd A a 0 = 2 ∧ 0 < nd A a 1
    · have cB := q.mpr c
      unfold ev eAll
      rw [cB.1, c.1, h1 a ha c.1]
      by_cases e : a < 64 ∧ 2 = 2 ∧ b < nd A a 1 / 256 * 8
      · rw [if_pos e, if_pos e]
        exact (ee a b ha (eA_lt ho ha (show b < eAll A a from e.2.2)).2).1
      · rw [if_neg e, if_neg e]
    · have cB := fun y => c (q.mp y)
      have z : ∀ (Y : tS), ¬ (nd Y a 0 = 2 ∧ 0 < nd Y a 1) → ev Y a b = 64 := fun Y y => by
        unfold ev eAll
        rw [if_neg (fun e => y ⟨e.2.1, by omega⟩)]
      rw [z B cB, z A c]
  · rw [ev_64 ha, ev_64 ha]
/-- names or parent of a node -/
theorem nn_fx (hx : x < 64) (hj : j = 2 ∨ j = 3) (ho : okT A) (hD : DI w A) (hF : TF A) (hT : TI w (setN A x j v)) (hp : j = 3 → nd A x 0 = 2 → v < 64 ∧ nd A v 0 = 2) :
    (∀ n' i, i < 95 → nd (setN A x j v) n' i = if n' = x ∧ i = j then v else nd A n' i) ∧ TF (setN A x j v) ∧ DI w (setN A x j v) ∧ (∀ a b, ev (setN A x j v) a b = ev A a b) ∧ KR A (setN A x j v) := by
  obtain ⟨r1, r2, r3, r4, r5⟩ := setN_r (A := A) (v := v) (x := j) hx (by omega) (by omega)
  have hs : ∀ a i, a < 64 → i < 1064 → hasA (setN A x j v) a i = hasA A a i := fun a i ha hi => by
    have := r5 a i ha (Or.inl hi)
    rwa [hs_slo hi, hs_slo hi] at this
  have hz : ∀ r k i, k < 8 → i < 30 → eZ (setN A x j v) r k i = eZ A r k i := fun r k i _ _ => r1 _ (by omega)
  have kr : KR A (setN A x j v) := KR_N
  have tf : TF (setN A x j v) := fun n' s' a b c e => by
    rw [r5 n' s' a b] at e
    obtain ⟨k, k1, k2⟩ := hF n' s' a b c e
    exact ⟨k, k1, by rw [r5 n' _ a (chS_ok b c k1).1]; exact k2⟩
  generalize setN A x j v = B at *
  have oth : ∀ n' i, i < 95 → i ≠ j → nd B n' i = nd A n' i := fun n' i a b => by rw [r4 n' i a, if_neg (fun q => b q.2)]
  obtain ⟨e1, e2⟩ := sm_ev (B := B) ho hD (fun a _ _ => oth a 1 (by omega) (by omega)) (fun a _ => by rw [oth a 0 (by omega) (by omega), oth a 1 (by omega) (by omega)]) hs hz
  obtain ⟨i1, i2, i3, i4, i5⟩ := hD
  refine ⟨r4, tf, ⟨fun a ha h2 => ?_, fun a b ha h2 hb hne => ?_, fun m hm h3 => ?_, fun m hm h12 i hi hsz => ?_, di5 hT tf⟩, e1, kr⟩
  · rw [oth a 0 (by omega) (by omega)] at h2
    obtain ⟨p1, p2, p3⟩ := i1 a ha h2
    have ba := (nd_k ho ha).2.1
    rw [oth a 1 (by omega) (by omega), oth _ 0 (by omega) (by omega)]
    refine ⟨p1, ?_, fun i hi => by rw [hs a i ha (by omega)]; exact p3 i hi⟩
    rw [r4 a 3 (by omega)]
    by_cases c : a = x ∧ 3 = j
    · rw [if_pos c]
      exact (hp c.2.symm (by rw [← c.1]; exact h2)).2
    · rw [if_neg c]
      exact p2
  · rw [oth a 0 (by omega) (by omega)] at h2
    have hb' : b < eAll A a := by
      unfold eAll at hb ⊢
      rw [oth a 1 (by omega) (by omega)] at hb
      exact hb
    obtain ⟨f1, f2⟩ := e2 a b ha (eA_lt ho ha hb').2
    rw [f1] at hne ⊢
    rw [f2, oth _ 0 (by omega) (by omega)]
    exact i2 a b ha h2 hb' hne
  · rw [oth m 0 (by omega) (by omega)] at h3
    rw [oth m 1 (by omega) (by omega), oth m 4 (by omega) (by omega)]
    exact i3 m hm h3
  · rw [oth m 0 (by omega) (by omega)] at h12
    rw [oth m 1 (by omega) (by omega)] at hsz
    rw [hs m i hm hi]
    exact i4 m hm h12 i hi hsz
/-- a node that was not used -/
theorem new_fx (hn : n < 64) (h0 : nd A n 0 = 0) (ho : okT A) (hT : TI w A) (hD : DI w A) (hF : TF A) (hT' : TI w B) (hd : d < 64) (h2 : nd A d 0 = 2) (hv : v = 1 ∨ v = 2 ∨ v = 3)
    (h36 : ∀ j, ¬ (n * 95 ≤ j ∧ j < n * 95 + 85) → B 36 j = A 36 j) (b0 : nd B n 0 = v) (b1 : nd B n 1 = 0) (b3 : v = 2 → nd B n 3 = d) (b4 : v = 3 → 1 ≤ nd B n 4) :
    TF B ∧ DI w B ∧ (∀ a b, ev B a b = ev A a b) := by
  have pz := hT.2.2.1 n hn (by omega) (by omega)
  have oth : ∀ m i, m < 64 → i < 95 → m ≠ n → nd B m i = nd A m i := fun m i hm hi q => h36 _ (by omega)
  have ptr : ∀ m i, m < 64 → 85 ≤ i → i < 95 → nd B m i = nd A m i := fun m i hm a b => h36 _ (by omega)
  have pte : ∀ r k, pt B r k = pt A r k := fun r k => h36 _ (by omega)
  have hse : ∀ m s, m < 64 → vs s → slo B m s = slo A m s := fun m s hm hs => by
    unfold slo hasA leafA
    simp only [pte, ptr m 93 hm (by omega) (by omega), ptr m 94 hm (by omega) (by omega)]
    by_cases c : s < 8
    · rw [ptr m (85 + s) hm (by omega) (by omega)]
    · simp only [if_neg c]
  have hs : ∀ a i, a < 64 → i < 1064 → hasA B a i = hasA A a i := fun a i ha hi => by
    have := hse a i ha (Or.inl hi)
    rwa [hs_slo hi, hs_slo hi] at this
  have hz : ∀ r k i, k < 8 → i < 30 → eZ B r k i = eZ A r k i := fun r k i _ _ => h36 _ (by omega)
  have nn : ∀ a, nd A a 0 = 2 → a ≠ n := fun a q e => by rw [e] at q; omega
  obtain ⟨e1, e2⟩ := sm_ev (B := B) ho hD (fun a ha q => oth a 1 ha (by omega) (nn a q)) (fun a ha => by
    by_cases c : a = n
    · rw [c, b1, h0]
      constructor
      · intro q
        omega
      · intro q
        omega
    · rw [oth a 0 ha (by omega) c, oth a 1 ha (by omega) c]) hs hz
  have tf : TF B := fun n' s' a b c e => by
    rw [hse n' s' a b] at e
    obtain ⟨k, k1, k2⟩ := hF n' s' a b c e
    exact ⟨k, k1, by rw [hse n' _ a (chS_ok b c k1).1]; exact k2⟩
  obtain ⟨i1, i2, i3, i4, i5⟩ := hD
  have hn0 : ∀ i, i < 1064 → hasA A n i = 0 := fun i hi => by
    have l93 : nd A n 93 = 0 := pz 8 (by omega)
    have l94 : nd A n 94 = 0 := pz 9 (by omega)
    unfold hasA leafA
    by_cases c : i < 8
    · rw [if_pos c]
      exact pz i (by omega)
    · rw [if_neg c, l93, l94, if_pos rfl]
      by_cases c2 : i < 40
      · rw [if_pos c2, if_pos rfl]
      · rw [if_neg c2, if_pos rfl]
  refine ⟨tf, ⟨fun a ha ka => ?_, fun a b ha ka hb hne => ?_, fun m hm km => ?_, fun m hm km i hi hsz => ?_, di5 hT' tf⟩, e1⟩
  · by_cases c : a = n
    · rw [c, b0] at ka
      rw [c, b1, b3 ka, oth d 0 hd (by omega) (nn d h2)]
      exact ⟨rfl, h2, fun i hi => by omega⟩
    · rw [oth a 0 ha (by omega) c] at ka
      obtain ⟨p1, p2, p3⟩ := i1 a ha ka
      have ba := (nd_k ho ha).2.1
      have bp := (nd_k ho ha).2.2.2.1
      rw [oth a 1 ha (by omega) c, oth a 3 ha (by omega) c, oth _ 0 bp (by omega) (nn _ p2)]
      exact ⟨p1, p2, fun i hi => by rw [hs a i ha (by omega)]; exact p3 i hi⟩
  · by_cases c : a = n
    · unfold eAll at hb
      rw [c, b1] at hb
      omega
    · rw [oth a 0 ha (by omega) c] at ka
      have hb' : b < eAll A a := by
        unfold eAll at hb ⊢
        rw [oth a 1 ha (by omega) c] at hb
        exact hb
      obtain ⟨f1, f2⟩ := e2 a b ha (eA_lt ho ha hb').2
      rw [f1] at hne ⊢
      obtain ⟨q1, q2⟩ := i2 a b ha ka hb' hne
      have l := eN_lt ho a b
      rw [f2, oth _ 0 (by omega) (by omega) (fun e => by rw [e] at q1; exact q1 h0)]
      exact ⟨q1, q2⟩
  · by_cases c : m = n
    · rw [c, b0] at km
      rw [c, b1]
      exact ⟨rfl, b4 km⟩
    · rw [oth m 0 hm (by omega) c] at km
      rw [oth m 1 hm (by omega) c, oth m 4 hm (by omega) c]
      exact i3 m hm km
  · rw [hs m i hm hi]
    by_cases c : m = n
    · rw [c]
      exact hn0 i hi
    · rw [oth m 0 hm (by omega) c] at km
      rw [oth m 1 hm (by omega) c] at hsz
      exact i4 m hm km i hi hsz
/-- sizes of directories when an entry comes -/
theorem SF_add (h : SF t A) (hv : v < 64) (hd : d < 64) (h2 : nd A d 0 = 2) (k0 : ∀ m, m < 64 → nd B m 0 = 2 → (nd A m 0 = 2 ∨ nd B m 1 = 0)) (hz : ∀ a, a < 64 → nd A a 0 = 2 → a ≠ d → nd B a 1 = nd A a 1) (g : (k < eAll A d ∧ nd B d 1 = nd A d 1) ∨ (k = eAll A d ∧ nd B d 1 = nd A d 1 + 256)) (he : ∀ a b, ev B a b = if a = d ∧ b = k then v else ev A a b) : SF (t + 1) B := by
  intro a ha ka
  rcases k0 a ha ka with q | q
  · obtain ⟨s1, s2⟩ := h a ha q
    have up : ∀ b, ev A a b ≠ 64 → ev B a b ≠ 64 := fun b y => by
      rw [he]
      split
      · omega
      · exact y
    by_cases c : a = d
    · subst c
      rcases g with ⟨g1, g2⟩ | ⟨g1, g2⟩
      · rw [g2]
        refine ⟨by omega, fun y => ?_⟩
        obtain ⟨b, b1, b2⟩ := s2 y
        refine ⟨b, ?_, up b b2⟩
        unfold eAll at b1 ⊢
        rw [g2]
        exact b1
      · rw [g2]
        refine ⟨by omega, fun _ => ⟨k, ?_, ?_⟩⟩
        · unfold eAll at g1 ⊢
          rw [g2]
          omega
        · rw [he, if_pos ⟨rfl, rfl⟩]
          omega
    · rw [hz a ha q c]
      refine ⟨by omega, fun y => ?_⟩
      obtain ⟨b, b1, b2⟩ := s2 y
      refine ⟨b, ?_, up b b2⟩
      unfold eAll at b1 ⊢
      rw [hz a ha q c]
      exact b1
  · rw [q]
    exact ⟨by omega, fun y => by omega⟩
/-- and when one goes -/
theorem SF_rem (h : SF t A) (hd : d < 64) (k0 : ∀ m, m < 64 → nd B m 0 = 2 → nd A m 0 = 2) (hz : ∀ a, a < 64 → a ≠ d → nd B a 1 = nd A a 1) (g : nd B d 1 ≤ nd A d 1 ∧ (0 < nd B d 1 → ∃ b, eAll B d ≤ b + 8 ∧ ev B d b ≠ 64)) (he : ∀ a b, a ≠ d → nd B a 0 = 2 → ev B a b = ev A a b) : SF t B := by
  intro a ha ka
  obtain ⟨s1, s2⟩ := h a ha (k0 a ha ka)
  by_cases c : a = d
  · subst c
    exact ⟨by omega, g.2⟩
  · rw [hz a ha c]
    refine ⟨s1, fun y => ?_⟩
    obtain ⟨b, b1, b2⟩ := s2 y
    refine ⟨b, ?_, by rw [he a b c ka]; exact b2⟩
    unfold eAll at b1 ⊢
    rw [hz a ha c]
    exact b1
end NOD
