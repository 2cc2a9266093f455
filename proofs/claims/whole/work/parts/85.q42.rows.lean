/-! ===== PURE: the journal's rows: takeRow, giveRow, setBase, save ===== -/
/-- a base's place gets another row -/
def sbJ (D : tD) (c : Nat) (v : Option Nat) : tD := match dP D 21 c with
  | none => upP D 21 c v
  | some a => upP (psS D a) 21 c v
section RWS
variable {b0 fu : Nat} {σ τ ρ : tM} {C C' : tS} {D D' : tD} {pl : Nat → Nat × Nat} {mo z : Nat → Nat} {m : Nat}
/-- a memory that has the same objects of the class's -/
theorem DG_same (h : DG b0 σ D pl mo) (hn : tn σ ≤ tn τ) (hr : ∀ a, a < b0 + tn σ → refO b0 τ a → refO b0 σ a) (hP : ∀ o j, isP o j → tA τ (b0 + o) j = tA σ (b0 + o) j) (h20 : tA τ (b0 + 20) 5 = tA σ (b0 + 20) 5 ∧ tA τ (b0 + 20) 6 = tA σ (b0 + 20) 6 ∧ tA τ (b0 + 20) 7 = tA σ (b0 + 20) 7) (hs : ∀ a, b0 + 33 ≤ a → a < b0 + tn σ → a ≠ b0 + 73 → ¬ refO b0 σ a → (tk σ a = .inl 4 ∨ tk σ a = .inr (3, 32) ∨ ∃ n, dL D < n ∧ n ≤ dH D ∧ (a = dT D 0 n ∨ a = dT D 5 n ∨ a = dT D 6 n ∨ a = dT D 7 n)) → same σ τ a) : DG b0 τ D pl mo ∧ ∀ a w, isRow b0 σ a w → isRow b0 τ a w := by
  obtain ⟨g1, ⟨g2, g3⟩, ⟨g4, g5, g6, g7⟩, g8⟩ := h
  have row : ∀ a w, isRow b0 σ a w → isRow b0 τ a w := by
    intro a w q
    have q4 := q.2.2.2.1
    have q5 := q.2.2.2.2.1
    exact isRow_same q hn ⟨hs a q4.1 (by omega) q4.2.2.1 q5.1 (Or.inl q.1), hs (a + 1) (by omega) q4.2.1 q4.2.2.2 q5.2 (Or.inr (Or.inl q.2.1))⟩ ⟨fun r => q5.1 (hr a (by omega) r), fun r => q5.2 (hr (a + 1) q4.2.1 r)⟩
  refine ⟨⟨fun o j q => ⟨by rw [hP o j q]; exact (g1 o j q).1, fun a e => ⟨row _ _ ((g1 o j q).2 a e).1, ((g1 o j q).2 a e).2⟩⟩, ⟨by rw [h20.2.2]; exact g2, fun k hk => ?_⟩, ⟨g4, g5, by rw [h20.1]; exact g6, by rw [h20.2.1]; exact g7⟩, fun n q1 q2 => ?_⟩, row⟩
  · obtain ⟨a1, a2, a3⟩ := g3 k hk
    have s := hs (dS D k) a1.2.2.2.1.1 (by have := a1.2.2.2.1.2.1; omega) a1.2.2.2.1.2.2.1 a1.2.2.2.2.1.1 (Or.inl a1.1)
    exact ⟨row _ _ a1, a2, by rw [s.2.2.2]; exact a3⟩
  · obtain ⟨k1, k2, k3, k4, k5, k6, k7⟩ := g8 n q1 q2
    have so : ∀ a, isO b0 σ a → (a = dT D 0 n ∨ a = dT D 5 n ∨ a = dT D 6 n ∨ a = dT D 7 n) → same σ τ a := fun a q r => hs a q.1 q.2.1 q.2.2.1 q.2.2.2 (Or.inr (Or.inr ⟨n, q1, q2, r⟩))
    have io : ∀ a, isO b0 σ a → isO b0 τ a := fun a q => ⟨q.1, by have := q.2.1; omega, q.2.2.1, fun r => q.2.2.2 (hr a q.2.1 r)⟩
    have s0 := so _ k2.1 (Or.inl rfl)
    have s5 := so _ k2.2.1 (Or.inr (Or.inl rfl))
    have s6 := so _ k2.2.2.1 (Or.inr (Or.inr (Or.inl rfl)))
    have s7 := so _ k2.2.2.2 (Or.inr (Or.inr (Or.inr rfl)))
    unfold isTm
    rw [s0.1, s5.1, s6.1, s7.1, s0.2.1, s0.2.2.2, s5.2.1, s6.2.2.2, s7.2.1]
    exact ⟨k1, ⟨io _ k2.1, io _ k2.2.1, io _ k2.2.2.1, io _ k2.2.2.2⟩, k3, k4, k5, fun k hk => ⟨(k6 k hk).1, (k6 k hk).2.1, row _ _ (k6 k hk).2.2.1, (k6 k hk).2.2.2⟩, k7⟩
/-- a place in a fixed cell of the class's -/
theorem CG_fix (h : CG b0 σ C D mo z m) {o j x : Nat} {v : Int32} (ho : isC o j = true) (hv : v = decC o j x) (hx : x < bndC o) : CG b0 (sI σ (b0 + o) j v) (up2 C o j x) D mo z m := by
  obtain ⟨h1, h2, h3, pl, h5, gz⟩ := h
  have l := isC_lt ho
  have n11 : o ≠ 11 := fun e => by subst e; cases ho
  obtain ⟨d1, d2⟩ := DG_same (τ := sI σ (b0 + o) j v) h5 (Nat.le_refl _) (fun a _ q => q) (fun _ _ _ => rfl) ⟨rfl, rfl, rfl⟩ (fun a q1 _ _ _ _ => same_sI (by omega))
  exact ⟨CA_up h1 n11 hv hx, h2, h3, pl, d1, fun k hk => ⟨d2 _ _ (gz k hk).1, (gz k hk).2⟩⟩
/-- a loose row's words anew -/
theorem CG_W {a : Nat} {w : Nat → Nat} {F : Nat → Int64} (h : CG b0 σ C D mo z m) (hr : isRow b0 σ a (dW D a)) (hF : ∀ j, F j = lN (w j) ∧ w j < 18446744073709551616) : CG b0 (sLr σ (a + 1) F) C (upW D a w) mo z m := by
  obtain ⟨h1, h2, h3, pl, ⟨g1, ⟨g2, g3⟩, g4, g8⟩, gz⟩ := h
  have kk := hr.2.1
  have row : ∀ x, isRow b0 σ x (dW D x) → isRow b0 (sLr σ (a + 1) F) x (dW (upW D a w) x) := by
    intro x q
    obtain ⟨q1, q2, q3, q4, q5, q6⟩ := q
    refine ⟨q1, q2, q3, q4, q5, fun j => ?_⟩
    show va_up (tL σ) (a + 1) F (x + 1) j = lN ((if x = a then w else dW D x) j) ∧ (if x = a then w else dW D x) j < _
    unfold va_up
    by_cases e : x = a
    · rw [if_pos (by omega), if_pos e]
      exact hF j
    · rw [if_neg (by omega), if_neg e]
      exact q6 j
  refine ⟨CA_Lr h1 (by have := hr.2.2.2.1.1; omega), h2, h3, pl, ⟨fun o j q => ⟨(g1 o j q).1, fun x e => ⟨row x ((g1 o j q).2 x e).1, ((g1 o j q).2 x e).2⟩⟩, ⟨g2, fun k hk => ⟨row _ (g3 k hk).1, (g3 k hk).2⟩⟩, g4, fun n q1 q2 => ?_⟩, fun k hk => ⟨row _ (gz k hk).1, (gz k hk).2⟩⟩
  obtain ⟨k1, k2, k3, k4, k5, k6, k7⟩ := g8 n q1 q2
  exact ⟨k1, k2, k3, k4, k5, fun k hk => ⟨(k6 k hk).1, (k6 k hk).2.1, row _ (k6 k hk).2.2.1, (k6 k hk).2.2.2⟩, k7⟩
/-- something is made: all that was there is as it was -/
theorem CG_grow (h : CG b0 σ C D mo z m) (fc : FC b0 σ τ) (hs : ∀ a, a < b0 + tn σ → same σ τ a) {x y : Nat} (hu : tu τ = tu σ + x) (hn : tn τ = tn σ + y) : CG b0 τ C (adE D x y) mo z m := by
  obtain ⟨h1, h2, h3, pl, h5, gz⟩ := h
  have L := h1.lay.1
  obtain ⟨d1, d2⟩ := DG_same (τ := τ) h5 (by omega) (fun a _ q => (FC_ref fc a).mp q) (fun o j q => by rw [(hs (b0 + o) (by rcases q with q | q | q <;> omega)).2.2.2]) (by rw [(hs (b0 + 20) (by omega)).2.2.2]; exact ⟨rfl, rfl, rfl⟩) (fun a _ q _ _ _ => hs a q)
  refine ⟨CA_same h1 (layC_33 h1.lay (by omega) (fun o ho => hs _ (by omega))) (fun o ho => (hs _ (by omega)).2.1) (hs _ (by omega)).2.2.1, FC_rf fc h2, ?_, pl, d1, fun k hk => ⟨d2 _ _ (gz k hk).1, (gz k hk).2⟩⟩
  rw [FC_psi fc]
  show tu τ ≤ dE D + x + psi b0 σ ∧ 64 * tn τ ≤ 64 * (dO D + y) + psi b0 σ
  omega
theorem low_row {a : Nat} {w : Nat → Nat} (h : isRow b0 σ a w) : a < b0 + tn σ := by have := h.2.2.2.1.2.1; omega
/-- a new row is loose -/
theorem CG_nwR (h : CG b0 σ C D mo z m) : CG b0 (nwR b0 σ) C (upW (adE D 34 2) (b0 + tn σ) (fun _ => 0)) mo (upz z m (b0 + tn σ)) (m + 1) := by
  have h74 := h.lay.1
  have fc := FC_nwR h.rf h74
  have tn2 : tn (nwR b0 σ) = tn σ + 2 := rfl
  have sm : ∀ x, x < b0 + tn σ → same σ (nwR b0 σ) x := fun x hx => same_t (same_new hx) (same_t (same_sN (by show x ≠ b0 + tn σ + 1; omega)) (same_sA (by omega)))
  have g := CG_grow (x := 34) (y := 2) h fc sm (by show tu σ + 2 + 32 = _; omega) rfl
  obtain ⟨-, h2, -, pl0, ⟨o1, ⟨o2, o3⟩, o4, o8⟩, oz⟩ := h
  have rf : ∀ x, refO b0 (nwR b0 σ) x ↔ refO b0 σ x := FC_ref fc
  have nr : ∀ x, b0 + tn σ ≤ x → ¬ refO b0 (nwR b0 σ) x := fun x hx q => by
    have := (h2 x ((rf x).mp q)).2.2
    omega
  have rn : isRow b0 (nwR b0 σ) (b0 + tn σ) (fun _ => 0) := by
    refine ⟨?_, ?_, ?_, ⟨by omega, by rw [tn2]; omega, by omega, by omega⟩, ⟨nr _ (by omega), nr _ (by omega)⟩, fun j => ?_⟩
    · show va_up (va_up (tk σ) (b0 + tn σ) (.inl 4)) (b0 + tn σ + 1) (.inr (3, 32)) (b0 + tn σ) = _
      unfold va_up
      rw [if_neg (by omega), if_pos rfl]
    · show va_up (va_up (tk σ) (b0 + tn σ) (.inl 4)) (b0 + tn σ + 1) (.inr (3, 32)) (b0 + tn σ + 1) = _
      unfold va_up
      rw [if_pos rfl]
    · show tA (sA _ (b0 + tn σ) 0 _) (b0 + tn σ) 0 = _
      rw [rd_AA, if_pos rfl, if_pos rfl]
    · show va_up (va_up (tL σ) (b0 + tn σ) (fun _ => 0)) (b0 + tn σ + 1) (fun _ => 0) (b0 + tn σ + 1) j = lN 0 ∧ 0 < _
      unfold va_up
      rw [if_pos rfl]
      exact ⟨rfl, by decide⟩
  obtain ⟨g1, g2, g3, pl, ⟨d1, ⟨d2, d3⟩, d4, d8⟩, gz⟩ := g
  -- the places of the rows that were there
  have ew : ∀ x, x ≠ b0 + tn σ → dW (upW (adE D 34 2) (b0 + tn σ) (fun _ => 0)) x = dW D x := fun x hx => if_neg hx
  refine ⟨g1, g2, g3, fun x => if x = b0 + tn σ then (0, m) else pl x, ⟨fun o j q => ⟨(d1 o j q).1, fun x e => ?_⟩, ⟨d2, fun k hk => ?_⟩, d4, fun n q1 q2 => ?_⟩, fun k hk => ?_⟩
  · have l : x ≠ b0 + tn σ := by have := low_row ((o1 o j q).2 x e).1; omega
    show isRow b0 (nwR b0 σ) x (dW (upW (adE D 34 2) (b0 + tn σ) (fun _ => 0)) x) ∧ (if x = b0 + tn σ then (0, m) else pl x) = (o, j)
    rw [ew x l, if_neg l]
    exact (d1 o j q).2 x e
  · have l : dS D k ≠ b0 + tn σ := by have := low_row (o3 k hk).1; omega
    show isRow b0 (nwR b0 σ) (dS D k) (dW (upW (adE D 34 2) (b0 + tn σ) (fun _ => 0)) (dS D k)) ∧ (if dS D k = b0 + tn σ then (0, m) else pl (dS D k)) = (100, k) ∧ tA (nwR b0 σ) (dS D k) 1 = (if k = 0 then none else some (dS D (k - 1)))
    rw [ew _ l, if_neg l]
    exact d3 k hk
  · obtain ⟨k1, k2, k3, k4, k5, k6, k7⟩ := d8 n q1 q2
    obtain ⟨-, -, -, -, -, p6, -⟩ := o8 n q1 q2
    refine ⟨k1, k2, k3, k4, k5, fun k hk => ?_, k7⟩
    have l : dX D 1 n k ≠ b0 + tn σ := by have := low_row (p6 k hk).2.2.1; omega
    show _ ∧ _ ∧ isRow b0 (nwR b0 σ) (dX D 1 n k) (dW (upW (adE D 34 2) (b0 + tn σ) (fun _ => 0)) (dX D 1 n k)) ∧ (mo n ≤ k → (if dX D 1 n k = b0 + tn σ then (0, m) else pl (dX D 1 n k)) = _)
    rw [ew _ l, if_neg l]
    exact k6 k hk
  · show isRow b0 (nwR b0 σ) (if k = m then b0 + tn σ else z k) (if (if k = m then b0 + tn σ else z k) = b0 + tn σ then (fun _ => 0) else dW D (if k = m then b0 + tn σ else z k)) ∧ (if (if k = m then b0 + tn σ else z k) = b0 + tn σ then (0, m) else pl (if k = m then b0 + tn σ else z k)) = (0, k)
    by_cases c : k = m
    · rw [if_pos c, if_pos rfl, if_pos rfl, c]
      exact ⟨rn, rfl⟩
    · have l : z k ≠ b0 + tn σ := by have := low_row (oz k (by omega)).1; omega
      rw [if_neg c, if_neg l, if_neg l]
      exact gz k (by omega)
/-- what takeRow leaves: a row that is loose, its words unknown; at most a new one is made -/
def tkP (D D' : tD) (a : Nat) : Prop := (D' = ppS D ∧ 0 < dN D ∧ a = dS D (dN D - 1)) ∨ (D' = upW (adE D 34 2) a (fun _ => 0) ∧ dN D = 0)
theorem takeRow_c (h : CG b0 σ C D mo z m) : wp (F6 b0) σ (m_X1_takeRow b0 fu (b0 + 20) σ) (fun v τ => ∃ a D', v = some a ∧ CG b0 τ C D' mo (upz z m a) (m + 1) ∧ tkP D D' a ∧ (dN D = 0 → b0 + tn σ ≤ a) ∧ ∀ x j, b0 + 33 ≤ x → x < b0 + tn σ → (∀ w, ¬ isRow b0 σ x w) → tA τ x j = tA σ x j ∧ tI τ x j = tI σ x j ∧ tk τ x = tk σ x) := by
  have L := h.lay
  have l74 := L.1
  refine wp_grw (F6_good b0) ?_
  rw [ckC_20 L]
  by_cases c : dN D = 0
  · have e7 : tA σ (b0 + 20) 7 = none := by
      obtain ⟨-, -, -, pl, ⟨-, ⟨g2, -⟩, -⟩, -⟩ := h
      rw [g2, if_pos c]
    rw [e7, omt_none, ltb_def, m4_init L.1]
    refine wp_ret ⟨FC_nwR h.rf L.1, by rw [(same_t (same_new (σ := σ) (by omega)) (same_t (same_sN (by show b0 + 20 ≠ b0 + tn σ + 1; omega)) (same_sA (by omega))) : same σ (nwR b0 σ) (b0 + 20)).2.2.2]⟩ ⟨b0 + tn σ, _, rfl, CG_nwR h, Or.inr ⟨rfl, c⟩, fun _ => Nat.le_refl _, fun x j h1 h2 _ => ?_⟩
    have sm : same σ (nwR b0 σ) x := same_t (same_new h2) (same_t (same_sN (by show x ≠ b0 + tn σ + 1; omega)) (same_sA (by omega)))
    exact ⟨by rw [sm.2.2.2], by rw [sm.2.1], sm.1⟩
  · obtain ⟨d, hd⟩ : ∃ d, dN D = d + 1 := ⟨dN D - 1, by omega⟩
    obtain ⟨q1, q2, q3, q4, q5⟩ := CG_pop h hd
    have fin : wp (F6 b0) σ (some (some (dS D d), sA (sA σ (b0 + 20) 7 (if d = 0 then none else some (dS D (d - 1)))) (dS D d) 1 none)) (fun v τ => ∃ a D', v = some a ∧ CG b0 τ C D' mo (upz z m a) (m + 1) ∧ tkP D D' a ∧ (dN D = 0 → b0 + tn σ ≤ a) ∧ ∀ x j, b0 + 33 ≤ x → x < b0 + tn σ → (∀ w, ¬ isRow b0 σ x w) → tA τ x j = tA σ x j ∧ tI τ x j = tI σ x j ∧ tk τ x = tk σ x) := by
      refine wp_ret ⟨q2.fc h.rf, by rw [rd_A1 _ _ _ _ (by have := q3.2.2.2.1.1; omega), rd_AA, if_pos rfl, if_neg (by decide)]⟩ ⟨dS D d, _, rfl, q1, Or.inl ⟨rfl, by omega, by rw [hd]; rfl⟩, fun e => absurd e c, fun x j h1 h2 h3 => ⟨?_, by rw [q2.2.2.2.1], by rw [q2.2.2.1]⟩⟩
      have xa : x ≠ dS D d := fun e => h3 _ (e ▸ q3)
      rw [rd_A1 _ _ _ _ xa, rd_A1 _ _ _ _ (by omega)]
    rw [q4, omt_some, ckO_row q3, q5]
    by_cases e : d = 0
    · rw [if_pos e, omt_none]
      rw [if_pos e] at fin
      exact fin
    · rw [if_neg e, omt_some]
      rw [if_neg e] at fin
      exact fin
/-- a row given back -/
theorem giveRow_c (h : CG b0 σ C D mo z (m + 1)) : m_X1_giveRow b0 fu (b0 + 20) (some (z m)) σ = some ((), sA (sA σ (z m) 1 (if dN D = 0 then none else some (dS D (dN D - 1)))) (b0 + 20) 7 (some (z m))) := by
  obtain ⟨q1, q2, q3, q4⟩ := CG_psh h
  unfold m_X1_giveRow J_X1_giveRow_17
  rw [omt_some, ckC_20 h.lay, q4]
  by_cases c : dN D = 0
  · rw [if_pos c, omt_none, ckO_row q3]
    exact grw_p rfl (Nat.le_refl _) (Nat.le_refl _)
  · rw [if_neg c, omt_some, ckO_row q3]
    exact grw_p rfl (Nat.le_refl _) (Nat.le_refl _)
theorem giveN_c : m_X1_giveRow b0 fu (b0 + 20) none σ = some ((), σ) := by
  unfold m_X1_giveRow J_X1_giveRow_17
  rw [omt_none]
  exact grw_same
theorem sA_over {x i a y j j' : Nat} {u s t v : Option Nat} : sA (sA (sA (sA σ x i u) a j s) y j' t) x i v = sA (sA (sA σ a j s) y j' t) x i v := by
  unfold sA tup
  refine Prod.ext rfl (Prod.ext rfl (Prod.ext rfl (Prod.ext rfl ?_)))
  funext p q
  dsimp only
  by_cases c : p = x
  · by_cases d : q = i
    · simp only [if_pos c, if_pos d]
    · simp only [if_pos c, if_neg d]
  · simp only [if_neg c]
theorem sA_2 {x i : Nat} {u v : Option Nat} : sA (sA σ x i u) x i v = sA σ x i v := by
  unfold sA tup
  refine Prod.ext rfl (Prod.ext rfl (Prod.ext rfl (Prod.ext rfl ?_)))
  funext p q
  dsimp only
  by_cases c : p = x
  · by_cases d : q = i
    · simp only [if_pos c, if_pos d]
    · simp only [if_pos c, if_neg d]
  · simp only [if_neg c]
theorem upP_2 {o j : Nat} {u v : Option Nat} : upP (upP D o j u) o j v = upP D o j v := by
  unfold upP dP
  refine Prod.ext ?_ rfl
  funext p q
  dsimp only
  by_cases c : p = o ∧ q = j
  · rw [if_pos c, if_pos c]
  · rw [if_neg c, if_neg c, if_neg c]
/-- no row in a place of the base -/
theorem setBaseN_c (h : CG b0 σ C D mo z m) {c : Nat} (hc : c < 2034) : wp (FC b0) σ (m_X1_setBase b0 fu (b0 + 20) (nI c) none σ) (fun _ τ => CG b0 τ C (sbJ D c none) mo z m ∧ ∀ x j, b0 + 33 ≤ x → (∀ w, ¬ isRow b0 σ x w) → tA τ x j = tA σ x j ∧ tI τ x j = tI σ x j ∧ tk τ x = tk σ x) := by
  have L := h.lay
  have e21 : tA σ (b0 + 21) c = dP D 21 c := by
    obtain ⟨-, -, -, pl, ⟨g1, -⟩, -⟩ := h
    exact (g1 21 c (Or.inr (Or.inr ⟨rfl, hc⟩))).1
  refine wp_grw (FC_good b0) ?_
  unfold J_X1_setBase_28 sbJ
  show wp (FC b0) σ (if nI c < nI 0 then _ else if nI 2034 ≤ nI c then _ else _) _
  rw [if_t (by omega) (by omega), if_neg (by omega), if_l (by omega) (by omega), if_neg (by omega), ckC_20 L, osm_p (rfC_20_3 L), ckC_21 L, ckI_n hc (by omega), nI_cl (by omega), e21]
  cases e0 : dP D 21 c with
  | none =>
    rw [omt_none, giveN_c, cll_some, ckC_20 L, osm_p (rfC_20_3 L), omt_none, ckC_21 L, ckI_n hc (by omega)]
    have e : sA σ (b0 + 21) c none = σ := by
      unfold sA
      refine Prod.ext rfl (Prod.ext rfl (Prod.ext rfl (Prod.ext rfl ?_)))
      funext p q
      show tup (tA σ) (b0 + 21) c none p q = tA σ p q
      unfold tup
      by_cases d1 : p = b0 + 21
      · by_cases d2 : q = c
        · rw [if_pos d1, if_pos d2, d1, d2, e21, e0]
        · rw [if_pos d1, if_neg d2]
      · rw [if_neg d1]
    rw [e]
    have e2 : upP D 21 c none = D := by
      unfold upP
      refine Prod.ext ?_ rfl
      funext p q
      dsimp only
      by_cases d : p = 21 ∧ q = c
      · rw [if_pos d, d.1, d.2, ← e0]
        rfl
      · rw [if_neg d]
        rfl
    exact wp_ret ((FC_good b0).1 _) ⟨by rw [e2]; exact h, fun _ _ _ _ => ⟨rfl, rfl, rfl⟩⟩
  | some a =>
    obtain ⟨q1, q2, q3⟩ := CG_frB h hc e0
    have w : upz z m a m = a := if_pos rfl
    obtain ⟨p1, p2, p3, p4⟩ := CG_psh q1
    have g : m_X1_giveRow b0 fu (b0 + 20) (some a) σ = some ((), sA (sA σ a 1 (if dN D = 0 then none else some (dS D (dN D - 1)))) (b0 + 20) 7 (some a)) := by
      have p4 : tA (sA σ (b0 + 21) c none) (b0 + 20) 7 = (if dN D = 0 then none else some (dS D (dN D - 1))) := p4
      rw [rd_A1 _ _ _ _ (by omega)] at p4
      unfold m_X1_giveRow J_X1_giveRow_17
      rw [omt_some, ckC_20 L, p4]
      by_cases d : dN D = 0
      · rw [if_pos d, omt_none, ckO_row q3]
        exact grw_p rfl (Nat.le_refl _) (Nat.le_refl _)
      · rw [if_neg d, omt_some, ckO_row q3]
        exact grw_p rfl (Nat.le_refl _) (Nat.le_refl _)
    rw [w] at p1 p2
    have p1 : CG b0 (sA (sA (sA σ (b0 + 21) c none) a 1 (if dN D = 0 then none else some (dS D (dN D - 1)))) (b0 + 20) 7 (some a)) C (psS (upP D 21 c none) a) mo (upz z m a) m := p1
    have p2 : NR b0 (sA σ (b0 + 21) c none) (sA (sA (sA σ (b0 + 21) c none) a 1 (if dN D = 0 then none else some (dS D (dN D - 1)))) (b0 + 20) 7 (some a)) := p2
    have nn := NR_t q2 p2
    have al := q3.2.2.2.1.1
    generalize hs : (if dN D = 0 then none else some (dS D (dN D - 1))) = s at g p1 p2 nn
    -- the other order
    have e3 : sA (sA (sA σ (b0 + 21) c none) a 1 s) (b0 + 20) 7 (some a) = sA (sA (sA σ a 1 s) (b0 + 20) 7 (some a)) (b0 + 21) c none := by
      unfold sA tup
      refine Prod.ext rfl (Prod.ext rfl (Prod.ext rfl (Prod.ext rfl ?_)))
      funext x y
      dsimp only
      by_cases d1 : x = b0 + 20
      · have d2 : ¬ x = b0 + 21 := by omega
        simp only [if_pos d1, if_neg d2]
      · simp only [if_neg d1]
        by_cases d3 : x = a
        · have d2 : ¬ x = b0 + 21 := by omega
          simp only [if_pos d3, if_neg d2]
        · simp only [if_neg d3]
    rw [omt_some, g, cll_some]
    have L2 : LayC b0 (sA (sA σ a 1 s) (b0 + 20) 7 (some a)) := by
      have n1 : NR b0 σ (sA σ a 1 s) := NR_2 (Or.inr ⟨rfl, _, q3⟩)
      have n2 : NR b0 (sA σ a 1 s) (sA (sA σ a 1 s) (b0 + 20) 7 (some a)) := NR_2 (Or.inl (Or.inr (Or.inr (Or.inr ⟨rfl, by decide, by decide⟩))))
      exact ((NR_t n1 n2).ca h.ca).lay
    rw [ckC_20 L2, osm_p (rfC_20_3 L2), omt_none, ckC_21 L2, ckI_n hc (by omega), ← e3]
    refine wp_ret (nn.fc h.rf) ⟨?_, fun x j h1 h3 => ⟨?_, by rw [nn.2.2.2.1], by rw [nn.2.2.1]⟩⟩
    · obtain ⟨c1, c2, c3, pl, c4, c5⟩ := p1
      exact ⟨c1, c2, c3, pl, c4, fun k hk => by have := c5 k hk; rwa [show upz z m a k = z k from if_neg (by omega)] at this⟩
    · have xa : x ≠ a := fun e => h3 _ (e ▸ q3)
      rw [rd_A1 _ _ _ _ (by omega), rd_A1 _ _ _ _ xa, rd_A1 _ _ _ _ (by omega)]
end RWS
