/-! ===== PURE: the class begins anew: forget ===== -/
section BG1
variable {b0 fu : Nat} {σ τ ρ : tM} {C C' : tS} {D D' : tD} {pl : Nat → Nat × Nat} {mo z : Nat → Nat} {m : Nat}
theorem setBaseN_6 (h : CG b0 σ C D mo z m) {c : Nat} (hc : c < 2034) : wp (F6 b0) σ (m_X1_setBase b0 fu (b0 + 20) (nI c) none σ) (fun _ τ => CG b0 τ C (sbJ D c none) mo z m) := by
  have L := h.lay
  have e21 : tA σ (b0 + 21) c = dP D 21 c := by
    obtain ⟨-, -, -, pl, ⟨g1, -⟩, -⟩ := h
    exact (g1 21 c (Or.inr (Or.inr ⟨rfl, hc⟩))).1
  refine wp_grw (F6_good b0) ?_
  unfold J_X1_setBase_28 sbJ
  show wp (F6 b0) σ (if nI c < nI 0 then _ else if nI 2034 ≤ nI c then _ else _) _
  rw [if_t (by omega) (by omega), if_neg (by omega), if_l (by omega) (by omega), if_neg (by omega), ckC_20 L, osm_p (rfC_20_3 L), ckC_21 L, ckI_n hc (by omega), nI_cl (by omega), e21]
  cases e0 : dP D 21 c with
  | none =>
    rw [omt_none, giveN_c, cll_some, ckC_20 L, osm_p (rfC_20_3 L), omt_none, ckC_21 L, ckI_n hc (by omega)]
    have e : sA σ (b0 + 21) c none = σ := by
      unfold sA
      refine Prod.ext rfl (Prod.ext rfl (Prod.ext rfl (Prod.ext rfl ?_)))
      funext p q
      show tup (tA σ) (b0 + 21) c none p q = tA σ p q
      unfold tup
      by_cases d1 : p = b0 + 21
      · by_cases d2 : q = c
        · rw [if_pos d1, if_pos d2, d1, d2, e21, e0]
        · rw [if_pos d1, if_neg d2]
      · rw [if_neg d1]
    rw [e]
    have e2 : upP D 21 c none = D := by
      unfold upP
      refine Prod.ext ?_ rfl
      funext p q
      dsimp only
      by_cases d : p = 21 ∧ q = c
      · rw [if_pos d, d.1, d.2, ← e0]
        rfl
      · rw [if_neg d]
        rfl
    exact wp_ret ((F6_good b0).1 _) (by rw [e2]; exact h)
  | some a =>
    obtain ⟨q1, q2, q3⟩ := CG_frB h hc e0
    have w : upz z m a m = a := if_pos rfl
    obtain ⟨p1, p2, p3, p4⟩ := CG_psh q1
    have g : m_X1_giveRow b0 fu (b0 + 20) (some a) σ = some ((), sA (sA σ a 1 (if dN D = 0 then none else some (dS D (dN D - 1)))) (b0 + 20) 7 (some a)) := by
      have p4 : tA (sA σ (b0 + 21) c none) (b0 + 20) 7 = (if dN D = 0 then none else some (dS D (dN D - 1))) := p4
      rw [rd_A1 _ _ _ _ (by omega)] at p4
      unfold m_X1_giveRow J_X1_giveRow_17
      rw [omt_some, ckC_20 L, p4]
      by_cases d : dN D = 0
      · rw [if_pos d, omt_none, ckO_row q3]
        exact grw_p rfl (Nat.le_refl _) (Nat.le_refl _)
      · rw [if_neg d, omt_some, ckO_row q3]
        exact grw_p rfl (Nat.le_refl _) (Nat.le_refl _)
    rw [w] at p1 p2
    have p1 : CG b0 (sA (sA (sA σ (b0 + 21) c none) a 1 (if dN D = 0 then none else some (dS D (dN D - 1)))) (b0 + 20) 7 (some a)) C (psS (upP D 21 c none) a) mo (upz z m a) m := p1
    have p2 : NR b0 (sA σ (b0 + 21) c none) (sA (sA (sA σ (b0 + 21) c none) a 1 (if dN D = 0 then none else some (dS D (dN D - 1)))) (b0 + 20) 7 (some a)) := p2
    have nn := NR_t q2 p2
    have al := q3.2.2.2.1.1
    generalize hs : (if dN D = 0 then none else some (dS D (dN D - 1))) = s at g p1 p2 nn
    -- the other order
    have e3 : sA (sA (sA σ (b0 + 21) c none) a 1 s) (b0 + 20) 7 (some a) = sA (sA (sA σ a 1 s) (b0 + 20) 7 (some a)) (b0 + 21) c none := by
      unfold sA tup
      refine Prod.ext rfl (Prod.ext rfl (Prod.ext rfl (Prod.ext rfl ?_)))
      funext x y
      dsimp only
      by_cases d1 : x = b0 + 20
      · have d2 : ¬ x = b0 + 21 := by omega
        simp only [if_pos d1, if_neg d2]
      · simp only [if_neg d1]
        by_cases d3 : x = a
        · have d2 : ¬ x = b0 + 21 := by omega
          simp only [if_pos d3, if_neg d2]
        · simp only [if_neg d3]
    rw [omt_some, g, cll_some]
    have L2 : LayC b0 (sA (sA σ a 1 s) (b0 + 20) 7 (some a)) := by
      have n1 : NR b0 σ (sA σ a 1 s) := NR_2 (Or.inr ⟨rfl, _, q3⟩)
      have n2 : NR b0 (sA σ a 1 s) (sA (sA σ a 1 s) (b0 + 20) 7 (some a)) := NR_2 (Or.inl (Or.inr (Or.inr (Or.inr ⟨rfl, by decide, by decide⟩))))
      exact ((NR_t n1 n2).ca h.ca).lay
    rw [ckC_20 L2, osm_p (rfC_20_3 L2), omt_none, ckC_21 L2, ckI_n hc (by omega), ← e3]
    refine wp_ret ⟨nn.fc h.rf, ?_⟩ ?_
    · rw [rd_AA, if_pos rfl, if_neg (by decide), rd_A1 _ _ _ _ (by omega), rd_A1 _ _ _ _ (by omega)]
    · obtain ⟨c1, c2, c3, pl, c4, c5⟩ := p1
      exact ⟨c1, c2, c3, pl, c4, fun k hk => by have := c5 k hk; rwa [show upz z m a k = z k from if_neg (by omega)] at this⟩
/-- the base is given back -/
def sBs (c m : Nat) (D D' : tD) : Prop := (∀ o j, o ≠ 21 → dP D' o j = dP D o j) ∧ (∀ j, dP D' 21 j = if c ≤ j ∧ j < c + m then none else dP D 21 j) ∧ (dL D' = dL D ∧ dH D' = dH D) ∧ dE D' = dE D ∧ dO D' = dO D
theorem sBs_1 {c : Nat} : sBs c 1 D (sbJ D c none) := by
  have u : ∀ (D : tD), sBs c 1 D (upP D 21 c none) := fun D => by
    refine ⟨fun o j ho => ?_, fun j => ?_, ⟨rfl, rfl⟩, rfl, rfl⟩
    · show (if o = 21 ∧ j = c then none else dP D o j) = dP D o j
      rw [if_neg (fun q => ho q.1)]
    · show (if 21 = 21 ∧ j = c then none else dP D 21 j) = _
      by_cases e : j = c
      · rw [if_pos ⟨rfl, e⟩, if_pos (by omega)]
      · rw [if_neg (fun q => e q.2), if_neg (by omega)]
  unfold sbJ
  cases e : dP D 21 c with
  | none => exact u D
  | some a => exact u (psS D a)
theorem sBs_t {c k : Nat} {D1 : tD} (h : sBs c k D D1) (g : sBs (c + k) m D1 D') : sBs c (k + m) D D' := by
  obtain ⟨h1, h2, ⟨h3, h4⟩, h5, h6⟩ := h
  obtain ⟨g1, g2, ⟨g3, g4⟩, g5, g6⟩ := g
  refine ⟨fun o j ho => by rw [g1 o j ho, h1 o j ho], fun j => ?_, ⟨by rw [g3, h3], by rw [g4, h4]⟩, by rw [g5, h5], by rw [g6, h6]⟩
  rw [g2, h2]
  by_cases e : c + k ≤ j ∧ j < c + k + m
  · rw [if_pos e, if_pos (by omega)]
  · rw [if_neg e]
    by_cases e2 : c ≤ j ∧ j < c + k
    · rw [if_pos e2, if_pos (by omega)]
    · rw [if_neg e2, if_neg (by omega)]
theorem sBs_0 {c : Nat} : sBs c 0 D D := ⟨fun _ _ _ => rfl, fun j => by rw [if_neg (by omega)], ⟨rfl, rfl⟩, rfl, rfl⟩
theorem fgt6 (h7 : C 10 7 ≤ 2034) : ∀ m c f σ D, CG b0 σ C D mo0 z 0 → c + m = C 10 7 → m < f → wp (F6 b0) σ (L_X1_forget_6 b0 fu f (b0 + 20) (nI c) σ) (fun _ τ => ∃ D', CG b0 τ C D' mo0 z 0 ∧ sBs c m D D') := by
  intro m
  induction m with
  | zero =>
    intro c f σ D h hk hf
    obtain ⟨f, rfl⟩ : ∃ g, f = g + 1 := ⟨f - 1, by omega⟩
    have L := h.lay
    unfold L_X1_forget_6
    rw [ltb_def, ckC_20 L, osm_p (rfC_20_1 L), ckC_10 L, cf_10_7 h.ca, if_l (by omega) (by omega), if_pos (by omega)]
    exact wp_ret ((F6_good b0).1 _) ⟨D, h, sBs_0⟩
  | succ m ih =>
    intro c f σ D h hk hf
    obtain ⟨f, rfl⟩ : ∃ g, f = g + 1 := ⟨f - 1, by omega⟩
    have L := h.lay
    unfold L_X1_forget_6
    rw [ltb_def, ckC_20 L, osm_p (rfC_20_1 L), ckC_10 L, cf_10_7 h.ca, if_l (by omega) (by omega), if_neg (by omega)]
    refine wp_bind (F6_good b0) (setBaseN_6 (fu := fu) h (by omega)) ?_
    intro _ ρ q
    rw [ltb_def, ofi]
    refine wp_mono (ih (c + 1) f ρ _ q (by omega) (by omega)) (fun _ τ _ y => ?_)
    obtain ⟨D', y1, y2⟩ := y
    have := sBs_t sBs_1 y2
    rw [show 1 + m = m + 1 by omega] at this
    exact ⟨D', y1, this⟩
/-- what forget leaves -/
def fgD (n : Nat) (D D' : tD) : Prop := (∀ o j, o ≠ 21 → dP D' o j = dP D o j) ∧ (∀ j, j < n → dP D' 21 j = none) ∧ (dL D' = 0 ∧ dH D' = 0) ∧ dE D' = dE D ∧ dO D' = dO D
theorem forget_c (h : CM b0 σ C D) (h7 : C 10 7 ≤ 2034) (hfu : ∀ n, dL D < n → n ≤ dH D → dT D 8 n < fu) (hf : dH D - dL D < fu) (hu : 3000 ≤ fu) : wp (FC b0) σ (m_X1_forget b0 fu (b0 + 20) σ) (fun _ τ => ∃ D', CM b0 τ C D' ∧ fgD (C 10 7) D D') := by
  refine wp_grw (FC_good b0) ?_
  rw [ckC_20 h.lay]
  refine wp_bind (FC_good b0) (dropAll_c (fu := fu) (x := 0) h (by omega) hfu hf) ?_
  rintro _ ρ ⟨D1, q1, q2⟩
  have z0 : (0 : Int32) = nI 0 := rfl
  have n6 : tA ρ (b0 + 20) 6 = none := by
    obtain ⟨-, -, -, pl, -, -, ⟨-, -, -, g7⟩, -⟩ := q2
    rw [g7, if_pos (show dL (noT D1 0) = dH (noT D1 0) from rfl)]
  rw [z0]
  obtain ⟨v, τ, e, ⟨fc, f6⟩, D', y1, y2⟩ := fgt6 (fu := fu) (z := fun _ => 0) h7 (C 10 7) 0 fu ρ _ (CG_of q2) (by omega) (by omega)
  refine ⟨v, τ, e, fc, D', CG_to y1 (fun _ => by rw [f6]; exact n6), fun o j ho => ?_, fun j hj => ?_, ⟨y2.2.2.1.1, y2.2.2.1.2⟩, ?_, ?_⟩
  · rw [y2.1 o j ho]
    show dP D1 o j = _
    rw [q1.2]
  · rw [y2.2.1, if_pos (by omega)]
  · rw [y2.2.2.2.1]
    exact q1.1.2.2.2.2.2.1
  · rw [y2.2.2.2.2]
    exact q1.1.2.2.2.2.2.2.1
end BG1
