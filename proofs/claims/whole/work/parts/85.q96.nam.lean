/-! ===== PURE: names and directories, told apart from how they are kept ===== -/
def itE (P : Nat → Nat) : Nat → Nat → Nat
  | 0, d => d
  | m + 1, d => itE P m (P d)
/-- how many entries lead to a node -/
def ecG (M : Nat) (E : Nat → Nat → Nat) (n : Nat) : Nat := cn (fun p => E (p / 8512) (p % 8512) == n) 0 M
theorem ecM_ex : ∃ m : Nat, m = 544768 := ⟨544768, rfl⟩
/-- all places of all directories; not to be reckoned out -/
noncomputable def ecM : Nat := Classical.choose ecM_ex
theorem ecM_e : ecM = 544768 := Classical.choose_spec ecM_ex
noncomputable def ecE (E : Nat → Nat → Nat) (n : Nat) : Nat := ecG ecM E n
/-- kinds, parents, names, entries -/
def NFa (K P N : Nat → Nat) (E : Nat → Nat → Nat) : Prop :=
  (K 0 = 2 ∧ P 0 = 0) ∧
  (∀ d k, E d k ≠ 64 → d < 64 ∧ k < 8512 ∧ K d = 2 ∧ E d k < 64 ∧ K (E d k) ≠ 0) ∧
  (∀ n, n < 64 → K n = 1 ∨ K n = 3 → N n = ecE E n ∧ N n ≤ 200) ∧
  (∀ n, n < 64 → K n = 2 → ecE E n = if n = 0 then 0 else 1) ∧
  (∀ d, d < 64 → K d = 2 → P d < 64 ∧ K (P d) = 2 ∧ (d ≠ 0 → ∃ k, E (P d) k = d) ∧ ∃ m, itE P m d = 0)
section NAM
variable {K K' P P' N N' : Nat → Nat} {E E' E1 : Nat → Nat → Nat} {n d k v x u e k2 m M : Nat}
theorem ec_lt {d k : Nat} (hd : d < 64) (hk : k < 8512) : d * 8512 + k < 544768 ∧ (d * 8512 + k) / 8512 = d ∧ (d * 8512 + k) % 8512 = k := by omega
/-- one entry is other -/
theorem ecG_up (hM : M = 544768) (hd : d < 64) (hk : k < 8512) (h : ∀ a b, ¬ (a = d ∧ b = k) → E' a b = E a b) : ecG M E' n + (if E d k = n then 1 else 0) = ecG M E n + (if E' d k = n then 1 else 0) := by
  obtain ⟨p1, p2, p3⟩ := ec_lt hd hk
  have oth : ∀ i, 0 ≤ i → i < 0 + M → i ≠ d * 8512 + k → (E' (i / 8512) (i % 8512) == n) = (E (i / 8512) (i % 8512) == n) := fun i _ hi hn => by
    rw [h _ _ (fun q => hn (by omega))]
  have at1 : (E ((d * 8512 + k) / 8512) ((d * 8512 + k) % 8512) == n) = (E d k == n) := by rw [p2, p3]
  have at2 : (E' ((d * 8512 + k) / 8512) ((d * 8512 + k) % 8512) == n) = (E' d k == n) := by rw [p2, p3]
  have f1 : E d k ≠ n → (E ((d * 8512 + k) / 8512) ((d * 8512 + k) % 8512) == n) = false := fun q => by rw [at1]; simpa using q
  have f2 : E' d k ≠ n → (E' ((d * 8512 + k) / 8512) ((d * 8512 + k) % 8512) == n) = false := fun q => by rw [at2]; simpa using q
  have t1 : E d k = n → (E ((d * 8512 + k) / 8512) ((d * 8512 + k) % 8512) == n) = true := fun q => by rw [at1]; simpa using q
  have t2 : E' d k = n → (E' ((d * 8512 + k) / 8512) ((d * 8512 + k) % 8512) == n) = true := fun q => by rw [at2]; simpa using q
  unfold ecG
  by_cases c1 : E d k = n
  · by_cases c2 : E' d k = n
    · rw [if_pos c1, if_pos c2]
      have := cn_congr (p := fun p => E' (p / 8512) (p % 8512) == n) (q := fun p => E (p / 8512) (p % 8512) == n) M 0 (fun i a b => by
        by_cases c : i = d * 8512 + k
        · show (E' (i / 8512) (i % 8512) == n) = (E (i / 8512) (i % 8512) == n)
          rw [c, t1 c1, t2 c2]
        · exact oth i a b c)
      rw [this]
    · rw [if_pos c1, if_neg c2]
      exact (cn_on (p := fun p => E' (p / 8512) (p % 8512) == n) (q := fun p => E (p / 8512) (p % 8512) == n) (x := d * 8512 + k) (f2 c2) (t1 c1) M 0 (Nat.zero_le _) (by omega) (fun i a b c => oth i a b c)).symm
  · by_cases c2 : E' d k = n
    · rw [if_neg c1, if_pos c2]
      exact cn_on (p := fun p => E (p / 8512) (p % 8512) == n) (q := fun p => E' (p / 8512) (p % 8512) == n) (x := d * 8512 + k) (f1 c1) (t2 c2) M 0 (Nat.zero_le _) (by omega) (fun i a b c => (oth i a b c).symm)
    · rw [if_neg c1, if_neg c2]
      have := cn_congr (p := fun p => E' (p / 8512) (p % 8512) == n) (q := fun p => E (p / 8512) (p % 8512) == n) M 0 (fun i a b => by
        by_cases c : i = d * 8512 + k
        · show (E' (i / 8512) (i % 8512) == n) = (E (i / 8512) (i % 8512) == n)
          rw [c, f1 c1, f2 c2]
        · exact oth i a b c)
      rw [this]
theorem ecG_pos (hM : M = 544768) (hd : d < 64) (hk : k < 8512) (h : E d k = n) : 0 < ecG M E n := by
  obtain ⟨p1, p2, p3⟩ := ec_lt hd hk
  unfold ecG
  exact cn_pos (p := fun p => E (p / 8512) (p % 8512) == n) (x := d * 8512 + k) (by show (E ((d * 8512 + k) / 8512) ((d * 8512 + k) % 8512) == n) = true; rw [p2, p3]; simpa using h) M 0 (Nat.zero_le _) (by omega)
theorem ecG_none (hM : M = 544768) (h : ∀ d k, d < 64 → k < 8512 → E d k ≠ n) : ecG M E n = 0 := by
  unfold ecG
  exact cn_all0 M 0 (fun p _ hp => by
    have := h (p / 8512) (p % 8512) (by omega) (by omega)
    simpa using this)
theorem ec_up (hd : d < 64) (hk : k < 8512) (h : ∀ a b, ¬ (a = d ∧ b = k) → E' a b = E a b) : ecE E' n + (if E d k = n then 1 else 0) = ecE E n + (if E' d k = n then 1 else 0) := ecG_up ecM_e hd hk h
theorem ec_pos (hd : d < 64) (hk : k < 8512) (h : E d k = n) : 0 < ecE E n := ecG_pos ecM_e hd hk h
theorem ec_no (h0 : ecE E n = 0) (hd : d < 64) (hk : k < 8512) : E d k ≠ n := fun e => by
  have := ec_pos hd hk e
  omega
theorem ec_none (h : ∀ d k, d < 64 → k < 8512 → E d k ≠ n) : ecE E n = 0 := ecG_none ecM_e h
/-- the only entry -/
theorem ec_one (h1 : ecE E n ≤ 1) (hd : d < 64) (hk : k < 8512) (h : E d k = n) {a b : Nat} (ha : a < 64) (hb : b < 8512) (h2 : E a b = n) : a = d ∧ b = k := by
  refine Classical.byContradiction (fun c => ?_)
  have q := ec_up (n := n) (E := E) (E' := fun x y => if x = d ∧ y = k then n + 1 else E x y) hd hk (fun x y r => if_neg r)
  rw [if_pos h, if_neg (show ¬ (if d = d ∧ k = k then n + 1 else E d k) = n by rw [if_pos ⟨rfl, rfl⟩]; omega)] at q
  have := ec_no (E := fun x y => if x = d ∧ y = k then n + 1 else E x y) (n := n) (by omega) ha hb
  exact this (by show (if a = d ∧ b = k then n + 1 else E a b) = n; rw [if_neg c]; exact h2)
theorem itE_c (h : ∀ j, j < m → P' (itE P j d) = P (itE P j d)) : itE P' m d = itE P m d := by
  induction m generalizing d with
  | zero => rfl
  | succ m ih =>
    show itE P' m (P' d) = itE P m (P d)
    have e : P' d = P d := h 0 (by omega)
    rw [e]
    exact ih (fun j hj => h (j + 1) (by omega))
theorem itE_s : ∀ m d, itE P (m + 1) d = P (itE P m d)
  | 0, _ => rfl
  | m + 1, d => itE_s m (P d)
theorem itE_add : ∀ a b d, itE P (a + b) d = itE P b (itE P a d)
  | 0, b, d => by rw [Nat.zero_add]; rfl
  | a + 1, b, d => by
    rw [show a + 1 + b = a + b + 1 by omega]
    exact itE_add a b (P d)
/-- an entry and a node more -/
theorem NF_new (h : NFa K P N E) (hn : n < 64) (h0 : K n = 0) (hk : v = 1 ∨ v = 2 ∨ v = 3) (hd : d < 64) (h2 : K d = 2) (hkk : k < 8512) (he : E d k = 64)
    (hK : ∀ m, m < 64 → K' m = if m = n then v else K m) (hP : ∀ m, m < 64 → m ≠ n → P' m = P m) (hPn : v = 2 → P' n = d) (hN : ∀ m, m < 64 → m ≠ n → N' m = N m) (hNn : v ≠ 2 → N' n = 1) (hE : ∀ a b, E' a b = if a = d ∧ b = k then n else E a b) : NFa K' P' N' E' := by
  obtain ⟨⟨a1, a2⟩, b, c, g, f⟩ := h
  have dn : d ≠ n := fun q => by rw [q] at h2; omega
  have n0 : n ≠ 0 := fun q => by rw [q] at h0; omega
  have nE : ∀ a b', E a b' ≠ n := fun x y q => by
    have := (b x y (by omega)).2.2.2.2
    rw [q] at this
    exact this h0
  have ec0 : ecE E n = 0 := ec_none (fun a b' _ _ => nE a b')
  have up := fun m => ec_up (n := m) (E := E) (E' := E') hd hkk (fun a b' r => by rw [hE, if_neg r])
  have Edk : E' d k = n := by rw [hE, if_pos ⟨rfl, rfl⟩]
  have ecn : ecE E' n = 1 := by
    have := up n
    rw [he, Edk, if_neg (by omega), if_pos rfl, ec0] at this
    omega
  have eco : ∀ m, m < 64 → m ≠ n → ecE E' m = ecE E m := fun m hm q => by
    have := up m
    rw [he, Edk, if_neg (by omega), if_neg (fun r => q r.symm)] at this
    omega
  refine ⟨⟨by rw [hK 0 (by omega), if_neg (fun q => n0 q.symm)]; exact a1, by rw [hP 0 (by omega) (fun q => n0 q.symm)]; exact a2⟩, fun a b' q => ?_, fun m hm q => ?_, fun m hm q => ?_, fun m hm q => ?_⟩
  · rw [hE] at q ⊢
    by_cases r : a = d ∧ b' = k
    · rw [if_pos r, hK n hn, if_pos rfl, r.1, r.2, hK d hd, if_neg dn]
      exact ⟨hd, hkk, h2, hn, by omega⟩
    · rw [if_neg r] at q ⊢
      obtain ⟨x1, x2, x3, x4, x5⟩ := b a b' q
      rw [hK a x1, if_neg (fun z => by rw [z] at x3; omega), hK _ x4, if_neg (nE a b')]
      exact ⟨x1, x2, x3, x4, x5⟩
  · rw [hK m hm] at q
    by_cases r : m = n
    · rw [if_pos r] at q
      rw [r, hNn (by omega), ecn]
      exact ⟨rfl, by omega⟩
    · rw [if_neg r] at q
      rw [hN m hm r, eco m hm r]
      exact c m hm q
  · rw [hK m hm] at q
    by_cases r : m = n
    · rw [r, ecn, if_neg n0]
    · rw [if_neg r] at q
      rw [eco m hm r]
      exact g m hm q
  · have keepP : ∀ y, y < 64 → K y = 2 → (∃ m, itE P m y = 0) → ∃ m, itE P' m y = 0 := fun y hy ky ⟨m, hm⟩ => by
      refine ⟨m, ?_⟩
      have dir : ∀ j, itE P j y < 64 ∧ K (itE P j y) = 2 := fun j => by
        induction j with
        | zero => exact ⟨hy, ky⟩
        | succ j ih =>
          rw [itE_s]
          exact ⟨(f _ ih.1 ih.2).1, (f _ ih.1 ih.2).2.1⟩
      rw [itE_c (fun j _ => hP _ (dir j).1 (fun z => by have := (dir j).2; rw [z] at this; omega)), hm]
    rw [hK m hm] at q
    by_cases r : m = n
    · rw [if_pos r] at q
      obtain ⟨y1, y2, y3, y4⟩ := f d hd h2
      obtain ⟨z, hz⟩ := keepP d hd h2 y4
      rw [r, hPn q, hK d hd, if_neg dn]
      refine ⟨hd, h2, fun _ => ⟨k, Edk⟩, z + 1, ?_⟩
      show itE P' z (P' n) = 0
      rw [hPn q, hz]
    · rw [if_neg r] at q
      obtain ⟨y1, y2, y3, y4⟩ := f m hm q
      rw [hP m hm r, hK _ y1, if_neg (fun z => by rw [z] at y2; omega)]
      refine ⟨y1, y2, fun m0 => ?_, keepP m hm q y4⟩
      obtain ⟨i, hi⟩ := y3 m0
      refine ⟨i, ?_⟩
      rw [hE, if_neg (fun z => by rw [z.1, z.2, he] at hi; omega)]
      exact hi
/-- an entry more to a node that is there -/
theorem NF_link (h : NFa K P N E) (hx : x < 64) (hkx : K x = 1 ∨ K x = 3) (hd : d < 64) (h2 : K d = 2) (hkk : k < 8512) (he : E d k = 64) (h2h : N x < 200)
    (hN : ∀ m, m < 64 → N' m = if m = x then N x + 1 else N m) (hE : ∀ a b, E' a b = if a = d ∧ b = k then x else E a b) : NFa K P N' E' := by
  obtain ⟨⟨a1, a2⟩, b, c, g, f⟩ := h
  have up := fun m => ec_up (n := m) (E := E) (E' := E') hd hkk (fun a b' r => by rw [hE, if_neg r])
  have Edk : E' d k = x := by rw [hE, if_pos ⟨rfl, rfl⟩]
  refine ⟨⟨a1, a2⟩, fun a b' q => ?_, fun m hm q => ?_, fun m hm q => ?_, fun m hm q => ?_⟩
  · rw [hE] at q ⊢
    by_cases r : a = d ∧ b' = k
    · rw [if_pos r, r.1, r.2]
      exact ⟨hd, hkk, h2, hx, by omega⟩
    · rw [if_neg r] at q ⊢
      exact b a b' q
  · obtain ⟨y1, y2⟩ := c m hm q
    have := up m
    rw [he, Edk, if_neg (by omega)] at this
    rw [hN m hm]
    by_cases r : m = x
    · rw [if_pos r.symm] at this
      rw [if_pos r]
      rw [r] at y1 this ⊢
      exact ⟨by omega, by omega⟩
    · rw [if_neg (fun z => r z.symm)] at this
      rw [if_neg r]
      exact ⟨by omega, y2⟩
  · have := up m
    rw [he, Edk, if_neg (by omega), if_neg (fun z => by rw [z] at hkx; omega)] at this
    rw [← g m hm q]
    omega
  · obtain ⟨y1, y2, y3, y4⟩ := f m hm q
    refine ⟨y1, y2, fun m0 => ?_, y4⟩
    obtain ⟨i, hi⟩ := y3 m0
    refine ⟨i, ?_⟩
    rw [hE, if_neg (fun z => by rw [z.1, z.2, he] at hi; omega)]
    exact hi
/-- an entry less, of a file or a link -/
theorem NF_unl (h : NFa K P N E) (hx : E d k = x) (hx64 : x ≠ 64) (hkx : K x = 1 ∨ K x = 3)
    (hN : ∀ m, m < 64 → N' m = if m = x then N x - 1 else N m) (hE : ∀ a b, E' a b = if a = d ∧ b = k then 64 else E a b) : NFa K P N' E' := by
  obtain ⟨⟨a1, a2⟩, b, c, g, f⟩ := h
  obtain ⟨hd, hkk, h2, hxx, -⟩ := b d k (by omega)
  rw [hx] at hxx
  have up := fun m => ec_up (n := m) (E := E) (E' := E') hd hkk (fun a b' r => by rw [hE, if_neg r])
  have Edk : E' d k = 64 := by rw [hE, if_pos ⟨rfl, rfl⟩]
  refine ⟨⟨a1, a2⟩, fun a b' q => ?_, fun m hm q => ?_, fun m hm q => ?_, fun m hm q => ?_⟩
  · rw [hE] at q ⊢
    by_cases r : a = d ∧ b' = k
    · rw [if_pos r] at q
      exact absurd rfl q
    · rw [if_neg r] at q ⊢
      exact b a b' q
  · obtain ⟨y1, y2⟩ := c m hm q
    have := up m
    rw [hx, Edk, if_neg (show ¬ 64 = m by omega)] at this
    rw [hN m hm]
    by_cases r : m = x
    · rw [if_pos r.symm] at this
      rw [if_pos r]
      rw [r] at y1 y2 this ⊢
      exact ⟨by omega, by omega⟩
    · rw [if_neg (fun z => r z.symm)] at this
      rw [if_neg r]
      exact ⟨by omega, y2⟩
  · have := up m
    rw [hx, Edk, if_neg (show ¬ 64 = m by omega), if_neg (fun z => by rw [z] at hkx; omega)] at this
    rw [← g m hm q]
    omega
  · obtain ⟨y1, y2, y3, y4⟩ := f m hm q
    refine ⟨y1, y2, fun m0 => ?_, y4⟩
    obtain ⟨i, hi⟩ := y3 m0
    refine ⟨i, ?_⟩
    rw [hE, if_neg (fun z => by rw [z.1, z.2, hx] at hi; rw [hi] at hkx; omega)]
    exact hi
/-- a node without a name goes -/
theorem NF_free (h : NFa K P N E) (hx : x < 64) (hkx : K x = 1 ∨ K x = 3) (h0 : N x = 0) (hK : ∀ m, m < 64 → K' m = if m = x then 0 else K m) (hN : ∀ m, m < 64 → m ≠ x → N' m = N m) (hP : ∀ m, m < 64 → m ≠ x → P' m = P m) : NFa K' P' N' E := by
  obtain ⟨⟨a1, a2⟩, b, c, g, f⟩ := h
  have e0 : ecE E x = 0 := by rw [← (c x hx hkx).1, h0]
  have nE : ∀ a b', E a b' ≠ 64 → E a b' ≠ x := fun p q r => by
    obtain ⟨y1, y2, -⟩ := b p q r
    exact ec_no e0 y1 y2
  have x0 : x ≠ 0 := fun q => by rw [q] at hkx; omega
  refine ⟨⟨by rw [hK 0 (by omega), if_neg (fun q => x0 q.symm)]; exact a1, by rw [hP 0 (by omega) (fun q => x0 q.symm)]; exact a2⟩, fun a b' q => ?_, fun m hm q => ?_, fun m hm q => ?_, fun m hm q => ?_⟩
  · obtain ⟨y1, y2, y3, y4, y5⟩ := b a b' q
    rw [hK a y1, if_neg (fun z => by rw [z] at y3; omega), hK _ y4, if_neg (nE a b' q)]
    exact ⟨y1, y2, y3, y4, y5⟩
  · rw [hK m hm] at q
    by_cases r : m = x
    · rw [if_pos r] at q
      omega
    · rw [if_neg r] at q
      rw [hN m hm r]
      exact c m hm q
  · rw [hK m hm] at q
    by_cases r : m = x
    · rw [if_pos r] at q
      omega
    · rw [if_neg r] at q
      exact g m hm q
  · rw [hK m hm] at q
    by_cases r : m = x
    · rw [if_pos r] at q
      omega
    · rw [if_neg r] at q
      obtain ⟨y1, y2, y3, y4⟩ := f m hm q
      rw [hP m hm r, hK _ y1, if_neg (fun z => by rw [z] at y2; omega)]
      obtain ⟨j, hj⟩ := y4
      refine ⟨y1, y2, y3, j, ?_⟩
      have dir : ∀ j, itE P j m < 64 ∧ K (itE P j m) = 2 := fun j => by
        induction j with
        | zero => exact ⟨hm, q⟩
        | succ j ih =>
          rw [itE_s]
          exact ⟨(f _ ih.1 ih.2).1, (f _ ih.1 ih.2).2.1⟩
      rw [itE_c (fun j _ => hP _ (dir j).1 (fun z => by have := (dir j).2; rw [z] at this; omega)), hj]
/-- an empty directory goes -/
theorem NF_rmd (h : NFa K P N E) (hx : E d k = x) (hx64 : x ≠ 64) (hkx : K x = 2) (he : ∀ b, E x b = 64) (hK : ∀ m, m < 64 → K' m = if m = x then 0 else K m) (hE : ∀ a b, E' a b = if a = d ∧ b = k then 64 else E a b) : NFa K' P N E' := by
  obtain ⟨⟨a1, a2⟩, b, c, g, f⟩ := h
  obtain ⟨hd, hkk, h2, hxx, -⟩ := b d k (by omega)
  rw [hx] at hxx
  have up := fun m => ec_up (n := m) (E := E) (E' := E') hd hkk (fun a b' r => by rw [hE, if_neg r])
  have Edk : E' d k = 64 := by rw [hE, if_pos ⟨rfl, rfl⟩]
  have x0 : x ≠ 0 := fun q => by
    have e := g 0 (by omega) a1
    rw [if_pos rfl] at e
    exact ec_no e hd hkk (hx.trans q)
  have ex1 : ecE E x = 1 := by rw [g x hxx hkx, if_neg x0]
  have xd : x ≠ d := fun q => by
    have := he k
    rw [q, hx] at this
    exact hx64 this
  have e0 : ecE E' x = 0 := by
    have := up x
    rw [hx, Edk, if_pos rfl, if_neg (by omega), ex1] at this
    omega
  have eco : ∀ m, m < 64 → m ≠ x → ecE E' m = ecE E m := fun m hm q => by
    have := up m
    rw [hx, Edk, if_neg (fun z => q z.symm), if_neg (by omega)] at this
    omega
  have par : ∀ m, m < 64 → K m = 2 → m ≠ x → P m ≠ x := fun m hm km mx q => by
    obtain ⟨y1, y2, y3, y4⟩ := f m hm km
    by_cases m0 : m = 0
    · rw [m0, a2] at q
      exact x0 q.symm
    · obtain ⟨i, hi⟩ := y3 m0
      rw [q, he i] at hi
      omega
  refine ⟨⟨by rw [hK 0 (by omega), if_neg (fun q => x0 q.symm)]; exact a1, a2⟩, fun a b' q => ?_, fun m hm q => ?_, fun m hm q => ?_, fun m hm q => ?_⟩
  · rw [hE] at q ⊢
    by_cases r : a = d ∧ b' = k
    · rw [if_pos r] at q
      exact absurd rfl q
    · rw [if_neg r] at q ⊢
      obtain ⟨y1, y2, y3, y4, y5⟩ := b a b' q
      have ax : a ≠ x := fun z => q (by rw [z]; exact he b')
      have nx : E a b' ≠ x := fun z => r (ec_one (by omega) hd hkk hx y1 y2 z)
      rw [hK a y1, if_neg ax, hK _ y4, if_neg nx]
      exact ⟨y1, y2, y3, y4, y5⟩
  · rw [hK m hm] at q
    by_cases r : m = x
    · rw [if_pos r] at q
      omega
    · rw [if_neg r] at q
      rw [eco m hm r]
      exact c m hm q
  · rw [hK m hm] at q
    by_cases r : m = x
    · rw [if_pos r] at q
      omega
    · rw [if_neg r] at q
      rw [eco m hm r]
      exact g m hm q
  · rw [hK m hm] at q
    by_cases r : m = x
    · rw [if_pos r] at q
      omega
    · rw [if_neg r] at q
      obtain ⟨y1, y2, y3, y4⟩ := f m hm q
      rw [hK _ y1, if_neg (par m hm q r)]
      refine ⟨y1, y2, fun m0 => ?_, y4⟩
      obtain ⟨i, hi⟩ := y3 m0
      refine ⟨i, ?_⟩
      rw [hE, if_neg (fun z => by rw [z.1, z.2, hx] at hi; exact r hi.symm)]
      exact hi
end NAM
