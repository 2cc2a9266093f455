/-! ===== PURE: an entry moved; how far the root is ===== -/
/-- one of the first m parents -/
def hitE (P : Nat → Nat) (d : Nat) : Nat → Nat → Bool
  | 0, _ => false
  | m + 1, x => hitE P d m x || itE P m d == x
section MOV
variable {K K' P P' N N' : Nat → Nat} {E E' E1 : Nat → Nat → Nat} {n d k v x u e k2 m z : Nat}
theorem NF_mov (h : NFa K P N E) (hx : E d k = n) (hx64 : n ≠ 64) (he : e < 64) (h2 : K e = 2) (hk2 : k2 < 8512) (hy : E e k2 = 64) (hch : K n = 2 → ∃ m, itE P m e = 0 ∧ ∀ j, j ≤ m → itE P j e ≠ n)
    (hP : ∀ m, m < 64 → P' m = if m = n ∧ K n = 2 then e else P m) (hE : ∀ a b, E' a b = if a = d ∧ b = k then 64 else if a = e ∧ b = k2 then n else E a b) : NFa K P' N E' := by
  obtain ⟨⟨a1, a2⟩, b, c, g, f⟩ := h
  obtain ⟨hd, hkk, hd2, hnn, hn0⟩ := b d k (by omega)
  rw [hx] at hnn hn0
  have ne : ¬ (e = d ∧ k2 = k) := fun q => by
    rw [q.1, q.2, hx] at hy
    exact hx64 hy
  have r0 : n ≠ 0 := fun q => by
    have e := g 0 (by omega) a1
    rw [if_pos rfl] at e
    exact ec_no e hd hkk (hx.trans q)
  have ec : ∀ m, m < 64 → ecE E' m = ecE E m := fun m hm => by
    obtain ⟨E1, hE1⟩ : ∃ f : Nat → Nat → Nat, ∀ a b, f a b = if a = e ∧ b = k2 then n else E a b := ⟨_, fun _ _ => rfl⟩
    have u1 := ec_up (n := m) (E := E) (E' := E1) he hk2 (fun a b' r => by rw [hE1, if_neg r])
    have u2 := ec_up (n := m) (E := E1) (E' := E') hd hkk (fun a b' r => by rw [hE, if_neg r, hE1])
    have w1 : E' d k = 64 := by rw [hE, if_pos ⟨rfl, rfl⟩]
    have w2 : E1 d k = n := by rw [hE1, if_neg (fun q => ne ⟨q.1.symm, q.2.symm⟩), hx]
    have w3 : E1 e k2 = n := by rw [hE1, if_pos ⟨rfl, rfl⟩]
    rw [w3, hy, if_neg (show ¬ 64 = m by omega)] at u1
    rw [w1, w2, if_neg (show ¬ 64 = m by omega)] at u2
    omega
  have dirP : ∀ m, m < 64 → K m = 2 → P m < 64 ∧ K (P m) = 2 := fun m hm km => ⟨(f m hm km).1, (f m hm km).2.1⟩
  have chE : K n = 2 → ∃ z, itE P' z e = 0 := fun kn => by
    obtain ⟨z, z1, z2⟩ := hch kn
    refine ⟨z, ?_⟩
    have dir : ∀ j, itE P j e < 64 ∧ K (itE P j e) = 2 := fun j => by
      induction j with
      | zero => exact ⟨he, h2⟩
      | succ j ih =>
        rw [itE_s]
        exact dirP _ ih.1 ih.2
    rw [itE_c (fun j hj => by rw [hP _ (dir j).1, if_neg (fun q => z2 j (by omega) q.1)]), z1]
  have chA : ∀ z m, m < 64 → K m = 2 → itE P z m = 0 → ∃ z', itE P' z' m = 0 := fun z => by
    induction z with
    | zero => exact fun m _ _ q => ⟨0, q⟩
    | succ z ih =>
      intro m hm km q
      by_cases r : m = n ∧ K n = 2
      · obtain ⟨z', hz⟩ := chE r.2
        refine ⟨z' + 1, ?_⟩
        show itE P' z' (P' m) = 0
        rw [hP m hm, if_pos r, hz]
      · obtain ⟨p1, p2⟩ := dirP m hm km
        obtain ⟨z', hz⟩ := ih (P m) p1 p2 q
        refine ⟨z' + 1, ?_⟩
        show itE P' z' (P' m) = 0
        rw [hP m hm, if_neg r, hz]
  refine ⟨⟨a1, by rw [hP 0 (by omega), if_neg (fun q => r0 q.1.symm)]; exact a2⟩, fun a b' q => ?_, fun m hm q => ?_, fun m hm q => ?_, fun m hm q => ?_⟩
  · rw [hE] at q ⊢
    by_cases r : a = d ∧ b' = k
    · rw [if_pos r] at q
      exact absurd rfl q
    · rw [if_neg r] at q ⊢
      by_cases s : a = e ∧ b' = k2
      · rw [if_pos s, s.1, s.2]
        exact ⟨he, hk2, h2, hnn, hn0⟩
      · rw [if_neg s] at q ⊢
        exact b a b' q
  · rw [ec m hm]
    exact c m hm q
  · rw [ec m hm]
    exact g m hm q
  · obtain ⟨y1, y2, y3, z, hz⟩ := f m hm q
    refine ⟨?_, ?_, fun m0 => ?_, chA z m hm q hz⟩
    · rw [hP m hm]
      split
      · exact he
      · exact y1
    · rw [hP m hm]
      split
      · exact h2
      · exact y2
    · by_cases r : m = n
      · refine ⟨k2, ?_⟩
        rw [hP m hm, if_pos ⟨r, by rw [← r]; exact q⟩, hE, if_neg ne, if_pos ⟨rfl, rfl⟩, r]
      · obtain ⟨i, hi⟩ := y3 m0
        refine ⟨i, ?_⟩
        rw [hP m hm, if_neg (fun s => r s.1), hE, if_neg (fun s => by rw [s.1, s.2, hx] at hi; exact r hi.symm), if_neg (fun s => by rw [s.1, s.2, hy] at hi; omega)]
        exact hi
/-- the first time -/
theorem it_min : ∀ z d, itE P z d = 0 → ∃ z0, z0 ≤ z ∧ itE P z0 d = 0 ∧ ∀ j, j < z0 → itE P j d ≠ 0
  | 0, d, h => ⟨0, Nat.le_refl _, h, fun j hj => by omega⟩
  | z + 1, d, h => by
    by_cases c : d = 0
    · exact ⟨0, by omega, c, fun j hj => by omega⟩
    · obtain ⟨z0, h1, h2, h3⟩ := it_min z (P d) h
      refine ⟨z0 + 1, by omega, h2, fun j hj => ?_⟩
      cases j with
      | zero => exact c
      | succ j => exact h3 j (by omega)
theorem hit_e : ∀ m x, hitE P d m x = true ↔ ∃ j, j < m ∧ itE P j d = x
  | 0, x => Iff.intro (fun h => absurd (show false = true from h) (by decide)) (fun ⟨j, h, _⟩ => by omega)
  | m + 1, x => by
    have ih := hit_e m x
    show (hitE P d m x || itE P m d == x) = true ↔ _
    rw [Bool.or_eq_true, ih, beq_iff_eq]
    constructor
    · rintro (⟨j, h1, h2⟩ | h)
      · exact ⟨j, by omega, h2⟩
      · exact ⟨m, by omega, h⟩
    · rintro ⟨j, h1, h2⟩
      by_cases c : j = m
      · exact Or.inr (by rw [← c]; exact h2)
      · exact Or.inl ⟨j, by omega, h2⟩
/-- the root is not far -/
theorem it_63 (hb : ∀ j, itE P j d < 64) (hz : itE P z d = 0) (hm : ∀ j, j < z → itE P j d ≠ 0) : z ≤ 63 := by
  have dis : ∀ i j, i < j → j ≤ z → itE P i d ≠ itE P j d := fun i j hij hj q => by
    have e1 : itE P z d = itE P (z - j) (itE P j d) := by
      rw [← itE_add, show j + (z - j) = z by omega]
    have e2 : itE P (i + (z - j)) d = itE P (z - j) (itE P i d) := itE_add _ _ _
    rw [q, ← e1, hz] at e2
    exact hm (i + (z - j)) (by omega) e2
  have cnt : ∀ m, m ≤ z + 1 → cn (hitE P d m) 0 64 = m := fun m => by
    induction m with
    | zero => exact fun _ => cn_all0 _ _ (fun _ _ _ => rfl)
    | succ m ih =>
      intro hm1
      have hp : hitE P d m (itE P m d) = false := by
        cases q : hitE P d m (itE P m d) with
        | false => rfl
        | true =>
          obtain ⟨j, j1, j2⟩ := (hit_e m _).mp q
          exact absurd j2 (dis j m j1 (by omega))
      have hq : hitE P d (m + 1) (itE P m d) = true := (hit_e _ _).mpr ⟨m, by omega, rfl⟩
      have := cn_on hp hq 64 0 (Nat.zero_le _) (by have := hb m; omega) (fun i _ _ hi => by
        show hitE P d m i = (hitE P d m i || itE P m d == i)
        have : (itE P m d == i) = false := by simpa using (fun q => hi q.symm)
        rw [this, Bool.or_false])
      rw [this, ih (by omega)]
  have := cnt (z + 1) (Nat.le_refl _)
  have := cn_le (hitE P d (z + 1)) 64 0
  omega
theorem it_dir (h : NFa K P N E) (hd : d < 64) (h2 : K d = 2) : ∀ j, itE P j d < 64 ∧ K (itE P j d) = 2 := fun j => by
  induction j with
  | zero => exact ⟨hd, h2⟩
  | succ j ih =>
    rw [itE_s]
    exact ⟨(h.2.2.2.2 _ ih.1 ih.2).1, (h.2.2.2.2 _ ih.1 ih.2).2.1⟩
theorem it_near (h : NFa K P N E) (hd : d < 64) (h2 : K d = 2) : ∃ z, z ≤ 63 ∧ itE P z d = 0 := by
  obtain ⟨-, -, -, z, hz⟩ := h.2.2.2.2 d hd h2
  obtain ⟨z0, -, a, b⟩ := it_min z d hz
  exact ⟨z0, it_63 (fun j => (it_dir h hd h2 j).1) a b, a⟩
/-- the reference's way up ends -/
theorem bw_ok {A : tS} (hP : ∀ m, P m = nd A m 3) : ∀ z m d, itE P z d = 0 → z ≤ m → bwOk A n m d
  | 0, m, d, h, _ => by
    cases m with
    | zero => exact Or.inr h
    | succ m => exact Or.inr (Or.inl h)
  | z + 1, m, d, h, hm => by
    obtain ⟨m, rfl⟩ : ∃ q, m = q + 1 := ⟨m - 1, by omega⟩
    have h : itE P z (P d) = 0 := h
    exact Or.inr (Or.inr (by rw [← hP d]; exact bw_ok hP z m (P d) h (by omega)))
theorem bw_no {A : tS} (hP : ∀ m, P m = nd A m 3) : ∀ m d, bwOk A n m d → bwA A n m d = false → ∃ z, itE P z d = 0 ∧ ∀ j, j ≤ z → itE P j d ≠ n
  | 0, d, h, q => by
    have q : (d == n) = false := q
    have dn : d ≠ n := by simpa using q
    have h : d = n ∨ d = 0 := h
    exact ⟨0, by rcases h with h | h; exact absurd h dn; exact h, fun j hj => by
      have : j = 0 := by omega
      rw [this]
      exact dn⟩
  | m + 1, d, h, q => by
    have q : (if d = n then true else if d = 0 then false else bwA A n m (nd A d 3)) = false := q
    by_cases c : d = n
    · rw [if_pos c] at q
      cases q
    · rw [if_neg c] at q
      by_cases c0 : d = 0
      · exact ⟨0, c0, fun j hj => by
          have : j = 0 := by omega
          rw [this]
          exact c⟩
      · rw [if_neg c0] at q
        have h : d = n ∨ d = 0 ∨ bwOk A n m (nd A d 3) := h
        have h3 : bwOk A n m (nd A d 3) := by
          rcases h with h | h | h
          · exact absurd h c
          · exact absurd h c0
          · exact h
        obtain ⟨z, z1, z2⟩ := bw_no hP m (nd A d 3) h3 q
        rw [← hP d] at z1 z2
        refine ⟨z + 1, z1, fun j hj => ?_⟩
        cases j with
        | zero => exact c
        | succ j => exact z2 j (by omega)
end MOV
