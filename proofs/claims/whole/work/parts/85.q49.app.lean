/-! ===== PURE: the journal's collect, whole; append ===== -/
section CON
variable {b0 fu : Nat} {σ τ ρ : tM} {C C' : tS} {D D' D'' : tD} {pl : Nat → Nat × Nat} {mo z tl rl : Nat → Nat} {m n x T R t r c : Nat} {i0 : Nat → Int32}
/-- what collect leaves -/
def ColP (b0 : Nat) (C : tS) (D : tD) (x T R t : Nat) (i0 : Nat → Int32) (τ : tM) : Prop := ∃ D' z' tl' rl', CG b0 τ C D' mo0 z' T ∧ MKt b0 τ x T R T R tl' rl' z' i0 ∧ LSt C D' (C 10 7) T tl' z' ∧ LSr C (C 10 7) R rl' ∧ sP D D' ∧ KW D D' ∧ dE D' ≤ dE D + 34 * (T - t) ∧ dO D' ≤ dO D + 2 * (T - t)
theorem cn_le2 {p : Nat → Bool} {c N : Nat} (h : c ≤ N) : cn p 0 c ≤ cn p 0 N := by
  obtain ⟨d, rfl⟩ : ∃ d, N = c + d := ⟨N - c, by omega⟩
  induction d with
  | zero => exact Nat.le_refl _
  | succ d ih =>
    have := ih (by omega)
    have e := cn_1 (p := p) (c + d)
    have e2 : c + (d + 1) = c + d + 1 := rfl
    rw [e2, e]
    omega
theorem col7 (hc : ci C) (hT : T < 2147483648) (hR : R < 2147483648) (htT : T = cn (p15 C) 0 (C 10 7)) (hrR : R = cn (p16 C) 0 (C 10 7)) : ∀ j c f σ D t r z tl rl, CG b0 σ C D mo0 z t → MKt b0 σ x T R t r tl rl z i0 → lowT D x → c + j = C 10 7 → 1 ≤ c → t = cn (p15 C) 0 c → LSt C D c t tl z → r = cn (p16 C) 0 c → LSr C c r rl → j < f →
    wp (F6 b0) σ (L_X1_collect_7 b0 fu f (b0 + 20) (some x) (nI t) (nI r) (nI c) σ) (fun _ τ => ColP b0 C D x T R t i0 τ) := by
  have c7 := hc.1.2.1
  intro j
  induction j with
  | zero =>
    intro c f σ D t r z tl rl h hm hl hcj h1 ht lt hr ls hf
    obtain ⟨f, rfl⟩ : ∃ q, f = q + 1 := ⟨f - 1, by omega⟩
    have L := h.lay
    have ec : c = C 10 7 := by omega
    have eT : t = T := by rw [ht, htT, ec]
    have eR : r = R := by rw [hr, hrR, ec]
    subst eT
    subst eR
    unfold L_X1_collect_7 J_X1_collect_132
    rw [ltb_def, ckC_20 L, osm_p (rfC_20_1 L), ckC_10 L, cf_10_7 h.ca, if_l (by omega) (by omega), if_pos (by omega)]
    rw [ec] at lt ls
    exact wp_ret ((F6_good b0).1 _) ⟨D, z, tl, rl, h, hm, lt, ls, sP_r D, KW_r D, Nat.le_add_right _ _, Nat.le_add_right _ _⟩
  | succ j ih =>
    intro c f σ D t r z tl rl h hm hl hcj h1 ht lt hr ls hf
    obtain ⟨f, rfl⟩ : ∃ q, f = q + 1 := ⟨f - 1, by omega⟩
    have L := h.lay
    have tT : t ≤ T := by rw [ht, htT]; exact cn_le2 (by omega)
    have rR : r ≤ R := by rw [hr, hrR]; exact cn_le2 (by omega)
    have t1 : t ≤ cn (p15 C) 0 (c + 1) := by rw [ht]; exact cn_le2 (by omega)
    have t2 : cn (p15 C) 0 (c + 1) ≤ T := by rw [htT]; exact cn_le2 (by omega)
    have go : wp (F6 b0) σ (J_X1_collect_37 b0 fu (L_X1_collect_7 b0 fu f) (b0 + 20) (some x) (nI t) (nI r) (nI c) σ) (fun _ τ => ColP b0 C D x T R t i0 τ) := by
      refine col37 h hc hm hl (by omega) h1 hT hR ht htT lt hr hrR ls (fun τ rl' tl' z' D' g1 g2 g3 g4 g5 g6 g7 g8 => ?_)
      have hl' : lowT D' x := by
        obtain ⟨-, q2, -, q4, q5⟩ := g5
        intro n n1 n2
        rw [q2]
        exact hl n (by rw [← q4]; exact n1) (by rw [← q5]; exact n2)
      refine wp_mono (ih (c + 1) f τ D' _ _ z' tl' rl' g1 g2 hl' (by omega) (by omega) rfl g4 rfl g3 (by omega)) ?_
      rintro _ ρ _ ⟨D2, z2, tl2, rl2, k1, k2, k3, k4, k5, k6, k7, k8⟩
      exact ⟨D2, z2, tl2, rl2, k1, k2, k3, k4, sP_t g5 k5, KW_t g6 g5 k6, by omega, by omega⟩
    have hm0 := hm
    obtain ⟨⟨m1, m2, m3, m4⟩, ⟨m5, m6, m7, m8, m9⟩, ⟨a1, a2, a3, a4, a5, a6⟩, l1, l2⟩ := hm
    have cr1 : ∀ {β : Type} (k : Nat → Option β), ckR b0 σ (x + 1) 0 k = k T := fun k => ckR_p m2 ⟨by omega, by omega⟩
    have cr3 : ∀ {β : Type} (k : Nat → Option β), ckR b0 σ (x + 3) 0 k = k R := fun k => ckR_p m4 ⟨by omega, by omega⟩
    unfold L_X1_collect_7 J_X1_collect_132
    rw [ltb_def, ckC_20 L, osm_p (rfC_20_1 L), ckC_10 L, cf_10_7 h.ca, if_l (by omega) (by omega), if_neg (by omega), omt_some, ckO_p m1 ⟨by omega, by omega⟩, osm_p m5, cr1, if_t (by omega) hT]
    by_cases c1 : t < T
    · rw [if_pos c1]
      exact go
    · rw [if_neg c1, osm_p m7, cr3, if_l hR (by omega)]
      by_cases c2 : R ≤ r
      · rw [if_pos c2]
        have eT : t = T := by omega
        have eR : r = R := by omega
        subst eT
        subst eR
        exact wp_ret ((F6_good b0).1 _) ⟨D, z, tl, rl, h, hm0, fun k hk => by have := lt k hk; exact ⟨this.1, this.2.1, by omega, this.2.2.2⟩, fun k hk => by have := ls k hk; exact ⟨this.1, this.2.1, by omega, this.2.2.2⟩, sP_r D, KW_r D, Nat.le_add_right _ _, Nat.le_add_right _ _⟩
      · rw [if_neg c2]
        exact go
/-- collect -/
theorem collect_c (h : CG b0 σ C D mo0 z 0) (hc : ci C) (hm : MKt b0 σ x (C 10 11) (C 10 12) 0 0 tl rl z i0) (hl : lowT D x) (hu : 3000 ≤ fu) : wp (F6 b0) σ (m_X1_collect b0 fu (b0 + 20) x σ) (fun _ τ => ColP b0 C D x (C 10 11) (C 10 12) 0 i0 τ) := by
  obtain ⟨⟨c1, c2, c3⟩, ⟨c4, c5, c6⟩, c7⟩ := hc
  have tail : ∀ (p : Nat → Bool), (∀ c, C 10 7 ≤ c → p c = false) → cn p 0 2034 = cn p 0 (C 10 7) := fun p hp => by
    obtain ⟨d, hd⟩ : ∃ d, 2034 = C 10 7 + d := ⟨2034 - C 10 7, by omega⟩
    have : ∀ d, cn p 0 (C 10 7 + d) = cn p 0 (C 10 7) := fun d => by
      induction d with
      | zero => rfl
      | succ d ih =>
        show cn p 0 (C 10 7 + d + 1) = _
        rw [cn_1, ih, hp _ (by omega), if_neg (by decide)]
        rfl
    rw [hd, this]
  have eT : C 10 11 = cn (p15 C) 0 (C 10 7) := by
    rw [c4]
    exact tail (p15 C) (fun c hcc => by unfold p15; rw [(c7 c (Or.inr hcc)).1]; rfl)
  have eR : C 10 12 = cn (p16 C) 0 (C 10 7) := by
    rw [c5]
    exact tail (p16 C) (fun c hcc => by unfold p16; rw [(c7 c (Or.inr hcc)).2.1]; rfl)
  have b11 := cn_le (p15 C) (C 10 7) 0
  have b12 := cn_le (p16 C) (C 10 7) 0
  have z15 : cn (p15 C) 0 1 = 0 := by
    rw [cn_1 (p := p15 C) 0]
    have : p15 C 0 = false := by unfold p15; rw [(c7 0 (Or.inl rfl)).1]; rfl
    rw [this, if_neg (by decide)]
    rfl
  have z16 : cn (p16 C) 0 1 = 0 := by
    rw [cn_1 (p := p16 C) 0]
    have : p16 C 0 = false := by unfold p16; rw [(c7 0 (Or.inl rfl)).2.1]; rfl
    rw [this, if_neg (by decide)]
    rfl
  exact wp_grw (F6_good b0) (col7 ⟨⟨c1, c2, c3⟩, ⟨c4, c5, c6⟩, c7⟩ (by omega) (by omega) eT eR (C 10 7 - 1) 1 fu σ D 0 0 z tl rl h hm hl (by omega) (by omega) z15.symm (fun k hk => by omega) z16.symm (fun k hk => by omega) (by omega))
end CON
