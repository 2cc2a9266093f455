/-! ===== PURE: a group posted: behind append ===== -/
section PEN
variable {Φ : tPh} {b0 fu : Nat} {σ τ : tM} {bi sp : Nat → Nat} {w : Nat → Nat × Nat} {C C' : tS} {D D' : tD} {A B : tS} {J J' : tJ} {K n m k sz un x T R st at_ : Nat} {tl z rl : Nat → Nat} {N : Nat}
theorem rank_inj {p : Nat → Bool} {a b : Nat} (ha : p a = true) (hb : p b = true) (h : cn p 0 a = cn p 0 b) : a = b := by
  refine Classical.byContradiction (fun c => ?_)
  by_cases d : a < b
  · have := cn_lt d ha
    omega
  · have := cn_lt (show b < a by omega) hb
    omega
theorem p15_t {a : Nat} (h : C 15 a ≠ 0) : p15 C a = true := by unfold p15; simp [h]
theorem p16_t {a : Nat} (h : C 16 a ≠ 0) : p16 C a = true := by unfold p16; simp [h]
/-- the words behind the new transaction -/
theorem mW_old (s : sP D D') (kw : KW D D') (hL : dL D ≤ dH D) {q : Nat} (hq : q / 32 < 2034) (hm : m ≤ dH D - dL D) : mW (adT D' x st at_ sz T R tl z rl) m q = mW D m q := by
  have e : ∀ m, m ≤ dH D - dL D → mW (adT D' x st at_ sz T R tl z rl) m q = mW D' m q := fun m => by
    induction m with
    | zero => exact fun _ => rfl
    | succ m ih =>
      intro hm
      have e5 := s.2.2.2.2
      have e4 := s.2.2.2.1
      have ne : ¬ dL D' + m + 1 = dH D' + 1 := by omega
      have dTn : ∀ f, dT (adT D' x st at_ sz T R tl z rl) f (dL D' + m + 1) = dT D' f (dL D' + m + 1) := fun f => by
        show (if dL D' + m + 1 = dH D' + 1 then _ else dT D' f (dL D' + m + 1)) = _
        rw [if_neg ne]
      have dXn : ∀ f k, dX (adT D' x st at_ sz T R tl z rl) f (dL D' + m + 1) k = dX D' f (dL D' + m + 1) k := fun f k => by
        show (if dL D' + m + 1 = dH D' + 1 then _ else dX D' f (dL D' + m + 1) k) = _
        rw [if_neg ne]
      show (if sr (fun k => dX (adT D' x st at_ sz T R tl z rl) 2 (dL D' + m + 1) k == q / 32) 0 (dT (adT D' x st at_ sz T R tl z rl) 9 (dL D' + m + 1)) < dT (adT D' x st at_ sz T R tl z rl) 9 (dL D' + m + 1) then 0 else if sr (fun k => dX (adT D' x st at_ sz T R tl z rl) 0 (dL D' + m + 1) k == q / 32) 0 (dT (adT D' x st at_ sz T R tl z rl) 8 (dL D' + m + 1)) < dT (adT D' x st at_ sz T R tl z rl) 8 (dL D' + m + 1) then dW D' (dX (adT D' x st at_ sz T R tl z rl) 1 (dL D' + m + 1) (sr (fun k => dX (adT D' x st at_ sz T R tl z rl) 0 (dL D' + m + 1) k == q / 32) 0 (dT (adT D' x st at_ sz T R tl z rl) 8 (dL D' + m + 1)))) (q % 32) else mW (adT D' x st at_ sz T R tl z rl) m q) = _
      simp only [dTn, dXn]
      rw [ih (by omega)]
      rfl
  rw [e m hm]
  exact mW_cong s kw hq m hm
theorem mW_new (s : sP D D') (kw : KW D D') (hL : dL D ≤ dH D) (lt : LSt C D' N T tl z) (ls : LSr C N R rl) (hT : T = cn (p15 C) 0 N) (hR : R = cn (p16 C) 0 N) {c j : Nat} (hc : c < 2034) (hN : c < N) (hj : j < 32) :
    mW (adT D' x st at_ sz T R tl z rl) (dH D - dL D + 1) (c * 32 + j) = if C 16 c ≠ 0 then 0 else if C 15 c ≠ 0 then C 11 (c * 32 + j) else mW D (dH D - dL D) (c * 32 + j) := by
  have e4 := s.2.2.2.1
  have e5 := s.2.2.2.2
  have qc : (c * 32 + j) / 32 = c := by omega
  have qj : (c * 32 + j) % 32 = j := by omega
  have nn : dL D' + (dH D - dL D) + 1 = dH D' + 1 := by omega
  have d8 : dT (adT D' x st at_ sz T R tl z rl) 8 (dH D' + 1) = T := by
    show (if dH D' + 1 = dH D' + 1 then _ else _) = _
    rw [if_pos rfl]
    rfl
  have d9 : dT (adT D' x st at_ sz T R tl z rl) 9 (dH D' + 1) = R := by
    show (if dH D' + 1 = dH D' + 1 then _ else _) = _
    rw [if_pos rfl]
    rfl
  have x0 : ∀ k, dX (adT D' x st at_ sz T R tl z rl) 0 (dH D' + 1) k = tl k := fun k => by
    show (if dH D' + 1 = dH D' + 1 then _ else _) = _
    rw [if_pos rfl]
    rfl
  have x1 : ∀ k, dX (adT D' x st at_ sz T R tl z rl) 1 (dH D' + 1) k = z k := fun k => by
    show (if dH D' + 1 = dH D' + 1 then _ else _) = _
    rw [if_pos rfl]
    rfl
  have x2 : ∀ k, dX (adT D' x st at_ sz T R tl z rl) 2 (dH D' + 1) k = rl k := fun k => by
    show (if dH D' + 1 = dH D' + 1 then _ else _) = _
    rw [if_pos rfl]
    rfl
  show (if sr (fun k => dX (adT D' x st at_ sz T R tl z rl) 2 (dL D' + (dH D - dL D) + 1) k == (c * 32 + j) / 32) 0 (dT (adT D' x st at_ sz T R tl z rl) 9 (dL D' + (dH D - dL D) + 1)) < dT (adT D' x st at_ sz T R tl z rl) 9 (dL D' + (dH D - dL D) + 1) then 0 else if sr (fun k => dX (adT D' x st at_ sz T R tl z rl) 0 (dL D' + (dH D - dL D) + 1) k == (c * 32 + j) / 32) 0 (dT (adT D' x st at_ sz T R tl z rl) 8 (dL D' + (dH D - dL D) + 1)) < dT (adT D' x st at_ sz T R tl z rl) 8 (dL D' + (dH D - dL D) + 1) then dW D' (dX (adT D' x st at_ sz T R tl z rl) 1 (dL D' + (dH D - dL D) + 1) (sr (fun k => dX (adT D' x st at_ sz T R tl z rl) 0 (dL D' + (dH D - dL D) + 1) k == (c * 32 + j) / 32) 0 (dT (adT D' x st at_ sz T R tl z rl) 8 (dL D' + (dH D - dL D) + 1)))) ((c * 32 + j) % 32) else mW (adT D' x st at_ sz T R tl z rl) (dH D - dL D) (c * 32 + j)) = _
  rw [nn, d8, d9, qc, qj, mW_old s kw hL (by omega) (Nat.le_refl _)]
  simp only [x0, x1, x2]
  by_cases c16 : C 16 c = 0
  · have nr : sr (fun k => rl k == c) 0 R = R := sr_miss (fun k hk => by
      have := (ls k hk).1
      have ne : rl k ≠ c := fun e => this (by rw [e]; exact c16)
      simp [ne])
    rw [nr, if_neg (Nat.lt_irrefl _), if_neg (show ¬ C 16 c ≠ 0 from fun q => q c16)]
    by_cases c15 : C 15 c = 0
    · have nt : sr (fun k => tl k == c) 0 T = T := sr_miss (fun k hk => by
        have := (lt k hk).1
        have ne : tl k ≠ c := fun e => this (by rw [e]; exact c15)
        simp [ne])
      rw [nt, if_neg (Nat.lt_irrefl _), if_neg (show ¬ C 15 c ≠ 0 from fun q => q c15)]
    · have pc : p15 C c = true := by unfold p15; simp [c15]
      have kT : cn (p15 C) 0 c < T := by rw [hT]; exact cn_lt hN pc
      have l := lt _ kT
      have ek : tl (cn (p15 C) 0 c) = c := rank_inj (p := p15 C) (p15_t l.1) pc l.2.2.2.1
      have hit : sr (fun k => tl k == c) 0 T < T := sr_hit kT (by simp [ek])
      have es := sr_is (fun k => tl k == c) T 0 (by omega)
      have es : tl (sr (fun k => tl k == c) 0 T) = c := by simpa using es
      rw [if_pos hit, if_pos c15, (lt _ hit).2.2.2.2 j hj, es]
  · have pc : p16 C c = true := by unfold p16; simp [c16]
    have kR : cn (p16 C) 0 c < R := by rw [hR]; exact cn_lt hN pc
    have l := ls _ kR
    have ek : rl (cn (p16 C) 0 c) = c := rank_inj (p := p16 C) (p16_t l.1) pc l.2.2.2
    rw [if_pos (sr_hit kR (by simp [ek])), if_pos c16]
/-- META told by other words, where they are the same for what is META -/
theorem MR_sub {V W : Nat → Nat} (ho : okT A) (h : MR bi w W A) (e0 : ∀ j, j < 32 → V j = 0) (e1 : ∀ c j, 1 ≤ c → c < 34 → j < 32 → V (c * 32 + j) = W (c * 32 + j)) (e2 : ∀ r j, r < 2000 → us A r → (2000 ≤ (w r).2 ∨ nd A (w r).1 0 = 2) → j < 32 → V ((34 + r) * 32 + j) = W ((34 + r) * 32 + j)) : MR bi w V A := by
  obtain ⟨m1, m2, m3, m4⟩ := h
  have e1' : ∀ q, 32 ≤ q → q < 1088 → V q = W q := fun q a b => by
    have := e1 (q / 32) (q % 32) (by omega) (by omega) (by omega)
    rwa [show q / 32 * 32 + q % 32 = q by omega] at this
  have oe : ∀ c i, 1 ≤ c → c < 34 → i < 256 → oW V c i = oW W c i := fun c i a b d => oW_e (e1' _ (by omega) (by omega)) rfl
  refine ⟨e0, fun r hr => by rw [e1' _ (by omega) (by omega)]; exact m2 r hr, fun n hn => ?_, fun r hr hu => ?_⟩
  · obtain ⟨a1, a2, a3, a4⟩ := m3 n hn
    have b4 := (nd_k ho hn).2.2.2.2
    refine ⟨by rw [e1' _ (by omega) (by omega)]; exact a1, fun c i hi => by rw [oe _ _ (by omega) (by omega) (by omega)]; exact a2 c i hi, fun c i hi => by rw [e1' _ (by omega) (by omega)]; exact a3 c i hi, fun c i hi => by rw [e1' _ (by omega) (by omega)]; exact a4 c i hi⟩
  · obtain ⟨b1, b2⟩ := m4 r hr hu
    refine ⟨fun c k hk => by rw [e2 r k hr hu (Or.inl c) hk]; exact b1 c k hk, fun c d k hk => ?_⟩
    have e2' : ∀ j, j < 32 → V ((34 + r) * 32 + j) = W ((34 + r) * 32 + j) := fun j hj => e2 r j hr hu (Or.inr d) hj
    have oe2 : ∀ i, i < 256 → oW V (34 + r) i = oW W (34 + r) i := fun i hi => oW_e (e2' _ (by omega)) rfl
    obtain ⟨c1, c2⟩ := b2 c d k hk
    have l := (eZ_lt ho (r := r) hk).2.1
    refine ⟨fun q i hi => ?_, fun q => ?_⟩
    · have := e2' (k * 4 + i) (by omega)
      rw [show (34 + r) * 32 + k * 4 + i = (34 + r) * 32 + (k * 4 + i) by omega, this]
      have := c1 q i hi
      rwa [show (34 + r) * 32 + k * 4 + i = (34 + r) * 32 + (k * 4 + i) by omega] at this
    · obtain ⟨d1, d2, d3⟩ := c2 q
      exact ⟨by rw [oe2 _ (by omega)]; exact d1, by rw [oe2 _ (by omega)]; exact d2, fun i hi => by rw [oe2 _ (by omega)]; exact d3 i hi⟩
/-- the ghost row anew -/
theorem CM_gh {X : Nat → Nat} (h : CM b0 σ C D) (hX : ∀ j, X j < 18446744073709551616) : CM b0 σ (upR C 100 X) D := by
  obtain ⟨⟨a1, a2, a3, a4⟩, h2, h3, h4⟩ := h
  refine ⟨⟨a1, fun o j e => ?_, fun j => ?_, fun o j => ?_⟩, h2, h3, h4⟩
  · have n : o ≠ 100 := fun r => by have := isC_lt e; omega
    show tI σ (b0 + o) j = decC o j (if o = 100 then X j else C o j)
    rw [if_neg n]
    exact a2 o j e
  · show tL σ (b0 + 11) j = lN (if 11 = 100 then X j else C 11 j)
    rw [if_neg (by decide)]
    exact a3 j
  · show (if o = 100 then X j else C o j) < bndD o j
    by_cases c : o = 100
    · rw [if_pos c, c]
      exact hX j
    · rw [if_neg c]
      exact a4 o j
theorem mW_lt (h : CM b0 σ C D) {q : Nat} (hq : q / 32 < 2034) : ∀ m, m ≤ dH D - dL D → mW D m q < 18446744073709551616 := by
  obtain ⟨-, -, -, pl, g1, -, -, g8⟩ := h
  intro m
  induction m with
  | zero =>
    intro _
    show (match dP D 21 (q / 32) with | none => 0 | some a => dW D a (q % 32)) < _
    cases e : dP D 21 (q / 32) with
    | none => exact (by decide : 0 < 18446744073709551616)
    | some a => exact (((g1 21 _ (Or.inr (Or.inr ⟨rfl, hq⟩))).2 a e).1.2.2.2.2.2 (q % 32)).2
  | succ m ih =>
    intro hm
    show (if sr (fun k => dX D 2 (dL D + m + 1) k == q / 32) 0 (dT D 9 (dL D + m + 1)) < dT D 9 (dL D + m + 1) then 0 else if sr (fun k => dX D 0 (dL D + m + 1) k == q / 32) 0 (dT D 8 (dL D + m + 1)) < dT D 8 (dL D + m + 1) then dW D (dX D 1 (dL D + m + 1) (sr (fun k => dX D 0 (dL D + m + 1) k == q / 32) 0 (dT D 8 (dL D + m + 1)))) (q % 32) else mW D m q) < _
    split
    · decide
    · split
      · rename_i c
        exact (((g8 (dL D + m + 1) (by omega) (by omega)).2.2.2.2.2.1 _ c).2.2.1.2.2.2.2.2 (q % 32)).2
      · exact ih (by omega)
theorem rtc_at (l : Nat) (hl : l ≠ 0) : ∀ m k (A : tS) o j, rtc l k m A o j = if o = 49 ∧ k ≤ j ∧ j < k + m ∧ A 49 j = 1 then 1 + l else A o j
  | 0, k, A, o, j => by
    rw [if_neg (by omega)]
    rfl
  | m + 1, k, A, o, j => by
    show rtc l (k + 1) m (if A 49 k = 1 then up2 A 49 k (1 + l) else A) o j = _
    rw [rtc_at l hl m (k + 1)]
    by_cases c : A 49 k = 1
    · rw [if_pos c]
      by_cases e : j = k
      · subst e
        rw [if_neg (by omega)]
        by_cases d : o = 49
        · rw [d, up2_s, if_pos ⟨rfl, Nat.le_refl _, by omega, c⟩]
        · rw [up2_o d, if_neg (fun q => d q.1)]
      · have e1 : up2 A 49 k (1 + l) 49 j = A 49 j := up2_j e
        rw [e1, up2_j e]
        by_cases f : o = 49 ∧ k + 1 ≤ j ∧ j < k + 1 + m ∧ A 49 j = 1
        · rw [if_pos f, if_pos ⟨f.1, by omega, by omega, f.2.2.2⟩]
        · rw [if_neg f, if_neg (fun g => f ⟨g.1, by omega, by omega, g.2.2.2⟩)]
    · rw [if_neg c]
      by_cases f : o = 49 ∧ k + 1 ≤ j ∧ j < k + 1 + m ∧ A 49 j = 1
      · rw [if_pos f, if_pos ⟨f.1, by omega, by omega, f.2.2.2⟩]
      · rw [if_neg f, if_neg (fun g => f ⟨g.1, by
          have : j ≠ k := fun e => c (e ▸ g.2.2.2)
          omega, by omega, g.2.2.2⟩)]
end PEN
