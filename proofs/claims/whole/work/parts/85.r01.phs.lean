/-! ===== PURE: the tree's form: files change, nameless nodes go ===== -/
section PHS
variable {bi : Nat → Nat} {w w' : Nat → Nat × Nat} {C C' A B : tS} {t n m k d : Nat}
theorem NFa_cg {K K' P P' N N' : Nat → Nat} {E E' : Nat → Nat → Nat} (h : NFa K P N E) (hK : ∀ m, m < 64 → K' m = K m) (hP : ∀ m, m < 64 → P' m = P m) (hN : ∀ m, m < 64 → N' m = N m) (hE : ∀ a b, E' a b = E a b) : NFa K' P' N' E' := by
  have e : E' = E := funext (fun a => funext (hE a))
  subst e
  obtain ⟨⟨a1, a2⟩, b, c, g, f⟩ := h
  refine ⟨⟨by rw [hK 0 (by omega)]; exact a1, by rw [hP 0 (by omega)]; exact a2⟩, fun a b' q => ?_, fun m hm q => ?_, fun m hm q => ?_, fun m hm q => ?_⟩
  · obtain ⟨y1, y2, y3, y4, y5⟩ := b a b' q
    rw [hK a y1, hK _ y4]
    exact ⟨y1, y2, y3, y4, y5⟩
  · rw [hK m hm] at q
    rw [hN m hm]
    exact c m hm q
  · rw [hK m hm] at q
    exact g m hm q
  · rw [hK m hm] at q
    obtain ⟨y1, y2, y3, z, hz⟩ := f m hm q
    rw [hP m hm, hK _ y1]
    refine ⟨y1, y2, y3, z, ?_⟩
    have dir : ∀ j, itE P j m < 64 ∧ K (itE P j m) = 2 := fun j => by
      induction j with
      | zero => exact ⟨hm, q⟩
      | succ j ih =>
        rw [itE_s]
        exact ⟨(f _ ih.1 ih.2).1, (f _ ih.1 ih.2).2.1⟩
    rw [itE_c (fun j _ => hP _ (dir j).1), hz]
theorem ev_64 (hd : ¬ d < 64) : ev A d k = 64 := by
  unfold ev
  rw [if_neg (fun q => hd q.1)]
/-- entries told by the words of their block -/
theorem eN_z : eN A d k = eZ A (hasA A d (k / 8) - 1) (k % 8) 0 := rfl
theorem eL_z : eL A d k = eZ A (hasA A d (k / 8) - 1) (k % 8) 1 := rfl
theorem eA_lt (ho : okT A) (hd : d < 64) (hk : k < eAll A d) : k / 8 < nd A d 1 / 256 ∧ k / 8 < 1064 := by
  have := (nd_k ho hd).2.1
  unfold eAll at hk
  omega
/-- a file's size and blocks change -/
theorem PH_file (h : PH t w A) (hn : n < 64) (h1 : nd A n 0 = 1) (ho : okT B) (hT : TI w' B) (hF : TF B) (hk : KP A B) (hz : ∀ n', n' < 64 → n' ≠ n → nd B n' 1 = nd A n' 1) (hs : ∀ n' s', n' < 64 → vs s' → n' ≠ n → slo B n' s' = slo A n' s') (hl : ∀ i, i < 1064 → nd B n 1 ≤ 256 * i → hasA B n i = 0) : PH t w' B := by
  have k0 : ∀ m, m < 64 → nd B m 0 = nd A m 0 := fun m hm => hk.nd hm (by omega) (by omega)
  have k3 : ∀ m, m < 64 → nd B m 3 = nd A m 3 := fun m hm => hk.nd hm (by omega) (by omega)
  have dn : ∀ d, nd A d 0 = 2 → d ≠ n := fun d h2 e => by rw [e] at h2; omega
  have hh : ∀ d i, d < 64 → d ≠ n → i < 1064 → hasA B d i = hasA A d i := fun d i hd q hi => by
    have := hs d i hd (Or.inl hi) q
    rwa [hs_slo hi, hs_slo hi] at this
  obtain ⟨p1, p2, p3, p4, p5, p6⟩ := h
  obtain ⟨i1, i2, i3, i4, i5⟩ := p4
  have eA : ∀ d, d < 64 → nd A d 0 = 2 → eAll B d = eAll A d := fun d hd h2 => by
    unfold eAll
    rw [hz d hd (dn d h2)]
  have ee : ∀ d k, d < 64 → nd A d 0 = 2 → k < eAll A d → eN B d k = eN A d k ∧ eL B d k = eL A d k := fun d k hd h2 hk' => by
    have l := (eA_lt p1 hd hk').2
    rw [eN_z, eN_z, eL_z, eL_z, hh d _ hd (dn d h2) l, hk.ez _ (by omega) (by omega), hk.ez _ (by omega) (by omega)]
    exact ⟨rfl, rfl⟩
  have ev_e : ∀ d k, ev B d k = ev A d k := fun d k => by
    by_cases hd : d < 64
    · unfold ev
      rw [k0 d hd]
      by_cases h2 : nd A d 0 = 2
      · rw [eA d hd h2]
        by_cases c : d < 64 ∧ nd A d 0 = 2 ∧ k < eAll A d
        · rw [if_pos c, if_pos c, (ee d k hd h2 c.2.2).1]
        · rw [if_neg c, if_neg c]
      · rw [if_neg (fun q => h2 q.2.1), if_neg (fun q => h2 q.2.1)]
    · rw [ev_64 hd, ev_64 hd]
  refine ⟨ho, hT, hF, ⟨fun d hd h2 => ?_, fun d k hd h2 hk' hne => ?_, fun m hm h3 => ?_, fun m hm h12 i hi hsz => ?_, di5 hT hF⟩, NFa_cg p5 k0 k3 (fun m hm => hk.nd hm (by omega) (by omega)) ev_e, fun d hd h2 => ?_⟩
  · rw [k0 d hd] at h2
    obtain ⟨a1, a2, a3⟩ := i1 d hd h2
    have b1 := (nd_k p1 hd).2.1
    have b3 := (nd_k p1 hd).2.2.2.1
    rw [hz d hd (dn d h2), k3 d hd, k0 _ b3]
    exact ⟨a1, a2, fun i hi => by rw [hh d i hd (dn d h2) (by omega)]; exact a3 i hi⟩
  · rw [k0 d hd] at h2
    rw [eA d hd h2] at hk'
    obtain ⟨e1, e2⟩ := ee d k hd h2 hk'
    rw [e1] at hne ⊢
    have l := eN_lt p1 d k
    rw [e2, k0 _ (by omega)]
    exact i2 d k hd h2 hk' hne
  · rw [k0 m hm] at h3
    have mn : m ≠ n := fun e => by rw [e] at h3; omega
    rw [hz m hm mn, hk.nd hm (by omega) (by omega)]
    exact i3 m hm h3
  · by_cases c : m = n
    · rw [c] at hsz ⊢
      exact hl i hi hsz
    · rw [k0 m hm] at h12
      rw [hz m hm c] at hsz
      rw [hh m i hm c hi]
      exact i4 m hm h12 i hi hsz
  · rw [k0 d hd] at h2
    rw [hz d hd (dn d h2), eA d hd h2]
    obtain ⟨s1, s2⟩ := p6 d hd h2
    refine ⟨s1, fun q => ?_⟩
    obtain ⟨k, z1, z2⟩ := s2 q
    exact ⟨k, z1, by rw [ev_e]; exact z2⟩
/-- a node without a name is no more -/
theorem PH_un (h : PH t w A) (hn : n < 64) (hkd : nd A n 0 = 1 ∨ nd A n 0 = 3) (h0 : nd A n 2 = 0) (hz : ∀ i, i < 10 → nd A n (85 + i) = 0) (hT : TI w (setN A n 0 0)) : PH t w (setN A n 0 0) := by
  obtain ⟨p1, p2, p3, p4, p5, p6⟩ := h
  obtain ⟨i1, i2, i3, i4, i5⟩ := p4
  have e36 : ∀ j, setN A n 0 0 36 j = if j = n * 95 then 0 else A 36 j := fun j => by
    unfold setN
    rw [up2_o (by decide), up2_if, Nat.add_zero]
    by_cases c : j = n * 95
    · rw [if_pos ⟨rfl, c⟩, if_pos c]
    · rw [if_neg (fun q => c q.2), if_neg c]
  have e35 : ∀ q, setN A n 0 0 35 q = A 35 q := fun q => by
    unfold setN
    rw [up2_o (by decide), up2_o (by decide)]
  generalize setN A n 0 0 = B at *
  have nde : ∀ m j, m < 64 → j < 95 → nd B m j = if m = n ∧ j = 0 then 0 else nd A m j := fun m j hm hj => by
    unfold nd
    rw [e36]
    by_cases c : m = n ∧ j = 0
    · rw [if_pos c, if_pos (by omega)]
    · rw [if_neg c, if_neg (by omega)]
  have pte : ∀ r k, pt B r k = pt A r k := fun r k => by
    unfold pt
    rw [e36, if_neg (by omega)]
  have hse : ∀ m s, m < 64 → vs s → slo B m s = slo A m s := fun m s hm hs => by
    unfold slo hasA leafA
    simp only [pte, nde m 93 hm (by omega), nde m 94 hm (by omega), show ¬ (m = n ∧ (93 : Nat) = 0) by omega, show ¬ (m = n ∧ (94 : Nat) = 0) by omega, if_false]
    by_cases c : s < 8
    · rw [nde m (85 + s) hm (by omega), if_neg (show ¬ (m = n ∧ 85 + s = 0) by omega)]
    · simp only [if_neg c]
  have hh : ∀ d i, d < 64 → i < 1064 → hasA B d i = hasA A d i := fun d i hd hi => by
    have := hse d i hd (Or.inl hi)
    rwa [hs_slo hi, hs_slo hi] at this
  have eze : ∀ r k i, eZ B r k i = eZ A r k i := fun r k i => by
    unfold eZ
    rw [e36, if_neg (by omega)]
  have kx : ∀ m, m < 64 → nd B m 0 = if m = n then 0 else nd A m 0 := fun m hm => by
    rw [nde m 0 hm (by omega)]
    by_cases c : m = n
    · rw [if_pos ⟨c, rfl⟩, if_pos c]
    · rw [if_neg (fun q => c q.1), if_neg c]
  have k2 : ∀ m, m < 64 → nd B m 0 = 2 → nd A m 0 = 2 := fun m hm q => by
    rw [kx m hm] at q
    by_cases c : m = n
    · rw [if_pos c] at q
      omega
    · rw [if_neg c] at q
      exact q
  have oth : ∀ m j, m < 64 → j ≠ 0 → j < 95 → nd B m j = nd A m j := fun m j hm a b => by rw [nde m j hm b, if_neg (fun q => a q.2)]
  have eA : ∀ d, d < 64 → eAll B d = eAll A d := fun d hd => by
    unfold eAll
    rw [oth d 1 hd (by omega) (by omega)]
  have ee : ∀ d k, d < 64 → k < eAll A d → eN B d k = eN A d k ∧ eL B d k = eL A d k := fun d k hd hk' => by
    have l := (eA_lt p1 hd hk').2
    rw [eN_z, eN_z, eL_z, eL_z, hh d _ hd l, eze, eze]
    exact ⟨rfl, rfl⟩
  have ev_e : ∀ d k, ev B d k = ev A d k := fun d k => by
    by_cases hd : d < 64
    · unfold ev
      rw [kx d hd, eA d hd]
      by_cases c : d = n
      · rw [if_pos c, if_neg (fun q => by omega), if_neg (fun q => by rw [c] at q; omega)]
      · rw [if_neg c]
        by_cases c2 : d < 64 ∧ nd A d 0 = 2 ∧ k < eAll A d
        · rw [if_pos c2, if_pos c2, (ee d k hd c2.2.2).1]
        · rw [if_neg c2, if_neg c2]
    · rw [ev_64 hd, ev_64 hd]
  have nE : ∀ d k, ev A d k ≠ 64 → ev A d k ≠ n := fun d k q => by
    have b := p5.2.1 d k q
    have c := (p5.2.2.1 n hn hkd).1
    have c : nd A n 2 = ecE (ev A) n := c
    exact ec_no (by omega) b.1 b.2.1
  have okB : okT B := fun j => by
    rw [e36]
    split
    · have := p1 j
      omega
    · exact p1 j
  have tfB : TF B := fun m s hm hs h2 q => by
    rw [hse m s hm hs] at q
    obtain ⟨k, a, b⟩ := p3 m s hm hs h2 q
    exact ⟨k, a, by rw [hse m _ hm (chS_ok hs h2 a).1]; exact b⟩
  refine ⟨okB, hT, tfB, ⟨fun d hd h2 => ?_, fun d k hd h2 hk' hne => ?_, fun m hm h3 => ?_, fun m hm h12 i hi hsz => ?_, di5 hT tfB⟩, ?_, fun d hd h2 => ?_⟩
  · have h2 := k2 d hd h2
    obtain ⟨a1, a2, a3⟩ := i1 d hd h2
    have b1 := (nd_k p1 hd).2.1
    have b3 := (nd_k p1 hd).2.2.2.1
    rw [oth d 1 hd (by omega) (by omega), oth d 3 hd (by omega) (by omega), kx _ b3, if_neg (fun q => by rw [q] at a2; omega)]
    exact ⟨a1, a2, fun i hi => by rw [hh d i hd (by omega)]; exact a3 i hi⟩
  · have h2 := k2 d hd h2
    rw [eA d hd] at hk'
    obtain ⟨e1, e2⟩ := ee d k hd hk'
    rw [e1] at hne ⊢
    have l := eN_lt p1 d k
    have q := nE d k (by rw [ev_at hd h2 hk']; exact hne)
    rw [ev_at hd h2 hk'] at q
    rw [e2, kx _ (by omega), if_neg q]
    exact i2 d k hd h2 hk' hne
  · rw [kx m hm] at h3
    by_cases c : m = n
    · rw [if_pos c] at h3
      omega
    · rw [if_neg c] at h3
      rw [oth m 1 hm (by omega) (by omega), oth m 4 hm (by omega) (by omega)]
      exact i3 m hm h3
  · rw [kx m hm] at h12
    by_cases c : m = n
    · rw [if_pos c] at h12
      omega
    · rw [if_neg c] at h12
      rw [oth m 1 hm (by omega) (by omega)] at hsz
      rw [hh m i hm hi]
      exact i4 m hm h12 i hi hsz
  · have := NF_free (K' := fun m => nd B m 0) (P' := fun m => nd B m 3) (N' := fun m => nd B m 2) p5 hn hkd h0 kx (fun m hm _ => oth m 2 hm (by omega) (by omega)) (fun m hm _ => oth m 3 hm (by omega) (by omega))
    exact NFa_cg this (fun _ _ => rfl) (fun _ _ => rfl) (fun _ _ => rfl) ev_e
  · have h2 := k2 d hd h2
    rw [oth d 1 hd (by omega) (by omega), eA d hd]
    obtain ⟨s1, s2⟩ := p6 d hd h2
    refine ⟨s1, fun q => ?_⟩
    obtain ⟨k, z1, z2⟩ := s2 q
    exact ⟨k, z1, by rw [ev_e]; exact z2⟩
end PHS
