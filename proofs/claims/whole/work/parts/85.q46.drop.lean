/-! ===== PURE: the journal's fold, its loop; dropAll ===== -/
def sTz (D : tD) : Nat → Nat → Nat
  | _, 0 => 0
  | n, k + 1 => dT D 4 (n + 1) + sTz D (n + 1) k
/-- k transactions folded -/
def FDs : Nat → tS → tD → tS → tD → Prop
  | 0, C, D, C', D' => C' = C ∧ D' = D
  | k + 1, C, D, C', D' => ∃ D1, sJ D D1 ∧ fdB D D1 (dL D + 1) ∧ FDs k (fdC C D (dL D + 1)) (dL1 D1) C' D'
/-- what the fold asks of a transaction -/
def txOk (fu : Nat) (D : tD) (n : Nat) : Prop := dT D 3 n + dT D 4 n < 2147483648 ∧ dT D 9 n < fu ∧ dT D 8 n < fu ∧ ∀ k k', k < dT D 8 n → k' < dT D 8 n → dX D 0 n k = dX D 0 n k' → k = k'
section FLG
variable {b0 fu : Nat} {σ τ ρ : tM} {C C' : tS} {D D' : tD} {pl : Nat → Nat × Nat} {mo z : Nat → Nat} {m n : Nat}
theorem CG_mo {mo' : Nat → Nat} (h : CG b0 σ C D mo z m) (e : ∀ n, dL D < n → n ≤ dH D → mo' n = mo n) : CG b0 σ C D mo' z m := by
  obtain ⟨c1, c2, c3, pl, ⟨g1, g2, g3, g4⟩, c5⟩ := h
  exact ⟨c1, c2, c3, pl, ⟨g1, g2, g3, fun n a b => by rw [e n a b]; exact g4 n a b⟩, c5⟩
theorem sTz_c (e : dT D' = dT D) : ∀ k n, sTz D' n k = sTz D n k
  | 0, _ => rfl
  | k + 1, n => by
    show dT D' 4 (n + 1) + sTz D' (n + 1) k = dT D 4 (n + 1) + sTz D (n + 1) k
    rw [e, sTz_c e k]
theorem fold147 (h : CG b0 σ C D mo0 z 0) : wp (FC b0) σ (J_X1_fold_147 b0 fu (b0 + 20) σ) (fun _ τ => CM b0 τ C D) := by
  have L := h.lay
  have o5 := h.old
  unfold J_X1_fold_147 J_X1_fold_159
  rw [ckC_20 L, o5.1]
  by_cases c : dL D = dH D
  · rw [if_pos c, omt_none]
    have nn : NR b0 σ (sA σ (b0 + 20) 6 none) := NR_2 (Or.inl (Or.inr (Or.inr (Or.inr ⟨rfl, by decide, by decide⟩))))
    refine wp_ret (nn.fc h.rf) ?_
    have g : CG b0 (sA σ (b0 + 20) 6 none) C D mo0 z 0 := by
      obtain ⟨h1, h2, h3, pl, ⟨g1, ⟨g2, g3⟩, ⟨g4, g5, g6, g7⟩, g8⟩, gz⟩ := h
      refine ⟨nn.ca h1, FC_rf (nn.fc h2) h2, by rw [nn.psi h2, nn.1, nn.2.1]; exact h3, pl, ⟨fun o j q => ⟨?_, fun x e => ⟨nn.row ((g1 o j q).2 x e).1, ((g1 o j q).2 x e).2⟩⟩, ⟨?_, fun k hk => ?_⟩, ⟨g4, g5, ?_, Or.inl c⟩, fun n' a1 a2 => by omega⟩, fun k hk => by omega⟩
      · rw [rd_A1 _ _ _ _ (by rcases q with q | q | q <;> omega)]
        exact (g1 o j q).1
      · rw [rd_AA, if_pos rfl, if_neg (by decide)]
        exact g2
      · obtain ⟨r1, r2, r3⟩ := g3 k hk
        refine ⟨nn.row r1, r2, ?_⟩
        rw [rd_A1 _ _ _ _ (by have := r1.2.2.2.1.1; omega)]
        exact r3
      · rw [rd_AA, if_pos rfl, if_neg (by decide)]
        exact g6
    exact CG_to g (fun _ => by rw [rd_AA, if_pos rfl, if_pos rfl])
  · rw [if_neg c, omt_some]
    exact wp_ret ((FC_good b0).1 _) (CG_to h (fun e => absurd e c))
theorem fold0 {x : Nat} (hx : x < 2147483648) : ∀ k f σ C D, CG b0 σ C D mo0 z 0 → (dL D + k = x ∨ (dL D + k < x ∧ dL D + k = dH D) ∨ (x < dL D ∧ k = 0)) → dL D + k ≤ dH D → sTz D (dL D) k ≤ C 20 9 → (∀ n, dL D < n → n ≤ dL D + k → txOk fu D n) → k < f →
    wp (FC b0) σ (L_X1_fold_0 b0 fu f (b0 + 20) (nI x) σ) (fun _ τ => ∃ C' D', CM b0 τ C' D' ∧ FDs k C D C' D') := by
  intro k
  induction k with
  | zero =>
    intro f σ C D h hk hH hs ht hf
    obtain ⟨f, rfl⟩ : ∃ q, f = q + 1 := ⟨f - 1, by omega⟩
    have L := h.lay
    have o5 := h.old
    have fin := fold147 (fu := fu) h
    unfold L_X1_fold_0
    rw [ltb_def, ckC_20 L, o5.1]
    by_cases c : dL D = dH D
    · rw [if_pos c, omt_none]
      refine wp_mono fin (fun _ ρ _ q => ⟨C, D, q, rfl, rfl⟩)
    · obtain ⟨pl, t⟩ := h.tx (n := dL D + 1) (by omega) (by omega)
      have cO := fun k => ckO_tx (β := Unit × tM) (k := k) t
      rw [if_neg c, omt_some, omt_some, cO, t.2.2.1.1, if_t hx (by omega), if_pos (by omega)]
      refine wp_mono fin (fun _ ρ _ q => ⟨C, D, q, rfl, rfl⟩)
  | succ k ih =>
    intro f σ C D h hk hH hs ht hf
    obtain ⟨f, rfl⟩ : ∃ q, f = q + 1 := ⟨f - 1, by omega⟩
    have L := h.lay
    have o5 := h.old
    obtain ⟨pl, t⟩ := h.tx (n := dL D + 1) (by omega) (by omega)
    have cO := fun k => ckO_tx (β := Unit × tM) (k := k) t
    obtain ⟨t1, t2, t3, t4⟩ := ht (dL D + 1) (by omega) (by omega)
    have hs' : dT D 4 (dL D + 1) + sTz D (dL D + 1) k ≤ C 20 9 := hs
    unfold L_X1_fold_0
    rw [ltb_def, ckC_20 L, o5.1, if_neg (by omega), omt_some, omt_some, cO, t.2.2.1.1, if_t hx (by omega), if_neg (by omega)]
    refine fold20 (D := D) (n := dL D + 1) (C := C) (by omega) t1 t2 t4 (dT D 8 (dL D + 1)) 0 fu σ D mo0 h rfl (sJ_r D) rfl (by omega) (by omega) t3 (fun k hk => by omega) (fun _ _ => rfl) (fun τ D'' mo' c1 c2 c3 c4 => ?_)
    have s4 : dL D'' = dL D := c3.2.2.2.1
    have s5 : dH D'' = dH D := c3.2.2.2.2.1
    have e1 : dL (dL1 D'') = dL D + 1 := by show dL D'' + 1 = _; rw [s4]
    have e2 : dH (dL1 D'') = dH D := s5
    have e3 : dT (dL1 D'') = dT D := c3.2.1
    have e4 : dX (dL1 D'') = dX D := c3.2.2.1
    have g := CG_mo (mo' := mo0) c1 (fun n' a b => by rw [e1] at a; rw [c2 n' (by omega)])
    refine wp_mono (ih f τ (fdC C D (dL D + 1)) (dL1 D'') g (by rw [e1, e2]; omega) (by rw [e1, e2]; omega) ?_ (fun n' a b => ?_) (by omega)) ?_
    · rw [e1, sTz_c e3]
      show _ ≤ up2 (up2 C 20 9 (C 20 9 - dT D 4 (dL D + 1))) 20 11 _ 20 9
      rw [up2_j (by decide), up2_s]
      omega
    · rw [e1] at a b
      unfold txOk
      rw [e3, e4]
      exact ht n' (by omega) (by omega)
    · rintro _ ρ _ ⟨C', D', q1, q2⟩
      exact ⟨C', D', q1, D'', c3, c4, q2⟩
/-- fold -/
theorem fold_c {x k : Nat} (h : CM b0 σ C D) (hx : x < 2147483648) (hk : dL D + k = x ∨ (dL D + k < x ∧ dL D + k = dH D) ∨ (x < dL D ∧ k = 0)) (hH : dL D + k ≤ dH D) (hs : sTz D (dL D) k ≤ C 20 9) (ht : ∀ n, dL D < n → n ≤ dL D + k → txOk fu D n) (hf : k < fu) :
    wp (FC b0) σ (m_X1_fold b0 fu (b0 + 20) (nI x) σ) (fun _ τ => ∃ C' D', CM b0 τ C' D' ∧ FDs k C D C' D') := wp_grw (FC_good b0) (fold0 (z := mo0) hx k fu σ C D (CG_of h) hk hH hs ht hf)
/-- no transaction is left -/
def noT (D : tD) (x : Nat) : tD := (D.1, D.2.1, D.2.2.1, D.2.2.2.1, D.2.2.2.2.1, D.2.2.2.2.2.1, x, x, D.2.2.2.2.2.2.2.2)
theorem CG_end {x : Nat} (h : CG b0 σ C D mo z 0) (hx : x < 2147483648) : CM b0 (sA (sA σ (b0 + 20) 5 none) (b0 + 20) 6 none) C (noT D x) ∧ NR b0 σ (sA (sA σ (b0 + 20) 5 none) (b0 + 20) 6 none) := by
  obtain ⟨h1, h2, h3, pl, ⟨g1, ⟨g2, g3⟩, g4, g8⟩, gz⟩ := h
  have n1 : NR b0 σ (sA σ (b0 + 20) 5 none) := NR_2 (Or.inl (Or.inr (Or.inr (Or.inr ⟨rfl, by decide, by decide⟩))))
  have n2 : NR b0 (sA σ (b0 + 20) 5 none) (sA (sA σ (b0 + 20) 5 none) (b0 + 20) 6 none) := NR_2 (Or.inl (Or.inr (Or.inr (Or.inr ⟨rfl, by decide, by decide⟩))))
  have nn := NR_t n1 n2
  refine ⟨⟨nn.ca h1, FC_rf (nn.fc h2) h2, by rw [nn.psi h2, nn.1, nn.2.1]; exact h3, pl, fun o j q => ⟨?_, fun a e => ⟨nn.row ((g1 o j q).2 a e).1, ((g1 o j q).2 a e).2⟩⟩, ⟨?_, fun k hk => ?_⟩, ⟨Nat.le_refl _, hx, ?_, ?_⟩, fun n' a1 a2 => ?_⟩, nn⟩
  · rw [rd_A1 _ _ _ _ (by rcases q with q | q | q <;> omega), rd_A1 _ _ _ _ (by rcases q with q | q | q <;> omega)]
    exact (g1 o j q).1
  · rw [rd_AA, if_pos rfl, if_neg (by decide), rd_AA, if_pos rfl, if_neg (by decide)]
    exact g2
  · obtain ⟨r1, r2, r3⟩ := g3 k hk
    refine ⟨nn.row r1, r2, ?_⟩
    show tA _ (dS D k) 1 = _
    rw [rd_A1 _ _ _ _ (by have := r1.2.2.2.1.1; omega), rd_A1 _ _ _ _ (by have := r1.2.2.2.1.1; omega)]
    exact r3
  · rw [rd_AA, if_pos rfl, if_neg (by decide), rd_AA, if_pos rfl, if_pos rfl]
    show none = if x = x then none else _
    rw [if_pos rfl]
  · rw [rd_AA, if_pos rfl, if_pos rfl]
    show none = if x = x then none else _
    rw [if_pos rfl]
  · have a1 : x < n' := a1
    have a2 : n' ≤ x := a2
    omega
/-- the same but for the spare rows -/
def sS (D D' : tD) : Prop := sJ D D' ∧ dP D' = dP D
theorem drp11 {rc5 : Nat → Option Nat → tM → Option (Unit × tM)} {Q : Unit → tM → Prop} : ∀ j i f σ D' mo, CG b0 σ C D' mo z 0 → sS D D' → mo n = i → dL D < n → n ≤ dH D → i + j = dT D 8 n → j < f →
    (∀ τ D'' mo', CG b0 τ C D'' mo' z 0 → sS D D'' → (∀ n', n' ≠ n → mo' n' = mo n') → wp (FC b0) τ (rc5 (b0 + 20) (if n = dH D then none else some (dT D 0 (n + 1))) τ) Q) →
    wp (FC b0) σ (L_X1_dropAll_11 b0 fu rc5 f (b0 + 20) (some (dT D 0 n)) (nI i) σ) Q := by
  intro j
  induction j with
  | zero =>
    intro i f σ D' mo h hs hmo n1 n2 hi hf K
    obtain ⟨f, rfl⟩ : ∃ q, f = q + 1 := ⟨f - 1, by omega⟩
    have hs0 := hs
    obtain ⟨⟨s1, s2, s3, s4, s5, s6, s7, s8, s9⟩, sp⟩ := hs
    obtain ⟨pl, t⟩ := h.tx (n := n) (by rw [s4]; omega) (by rw [s5]; exact n2)
    have t0 := t
    obtain ⟨b8, b9, b2, b3, b4⟩ := tx_8 t
    rw [s2] at b8
    obtain ⟨k1, k2, k3, k4, k5, k6, k7⟩ := t
    rw [s2] at k1 k2 k4
    rw [s5] at k4
    have cO : ∀ {β : Type} (k : Option β), ckO b0 σ (dT D 0 n) 7 k = k := fun k => ckO_p k1.1 ⟨by have := k2.1.1; omega, k2.1.2.1⟩
    have r6 : ∀ {β : Type} (k : Nat → Option β), ckR b0 σ (dT D 6 n) 4 k = k (dT D 8 n) := fun k => by
      have := (ckR_tx (k := k) t0).2.1
      rwa [s2] at this
    have fin := K σ D' mo h hs0 (fun _ _ => rfl)
    unfold L_X1_dropAll_11
    rw [ltb_def, omt_some, cO, osm_p k4.2.1, r6, if_l b8 (by omega), if_pos (by omega), k4.2.2.2]
    by_cases c : n = dH D
    · rw [if_pos c, omt_none]
      rwa [if_pos c] at fin
    · rw [if_neg c, omt_some]
      rwa [if_neg c] at fin
  | succ j ih =>
    intro i f σ D' mo h hs hmo n1 n2 hi hf K
    obtain ⟨f, rfl⟩ : ∃ q, f = q + 1 := ⟨f - 1, by omega⟩
    have hs0 := hs
    obtain ⟨⟨s1, s2, s3, s4, s5, s6, s7, s8, s9⟩, sp⟩ := hs
    have nl : dL D' < n := by rw [s4]; omega
    have nh : n ≤ dH D' := by rw [s5]; exact n2
    obtain ⟨pl, t⟩ := h.tx nl nh
    have t0 := t
    obtain ⟨b8, b9, b2, b3, b4⟩ := tx_8 t
    rw [s2] at b8
    obtain ⟨k1, k2, k3, k4, k5, k6, k7⟩ := t
    obtain ⟨-, v3, -, -⟩ := k6 i (by rw [s2]; omega)
    rw [s2] at k1 k2 k4 v3
    rw [s3] at v3
    have cO : ∀ {β : Type} (k : Option β), ckO b0 σ (dT D 0 n) 7 k = k := fun k => ckO_p k1.1 ⟨by have := k2.1.1; omega, k2.1.2.1⟩
    have r6 : ∀ {β : Type} (k : Nat → Option β), ckR b0 σ (dT D 6 n) 4 k = k (dT D 8 n) := fun k => by
      have := (ckR_tx (k := k) t0).2.1
      rwa [s2] at this
    have g0 := CG_frT h nl nh (by rw [hmo, s2]; omega)
    rw [hmo, s3] at g0
    have g := giveRow_c (fu := fu) g0
    obtain ⟨p1, p2, -, -⟩ := CG_psh g0
    rw [upz_m] at g p1 p2
    unfold L_X1_dropAll_11
    rw [ltb_def, omt_some, cO, osm_p k4.2.1, r6, if_l b8 (by omega), if_neg (by omega), osm_p k4.2.1, r6, ckI_n (by omega) b8, nI_cl (by omega), v3, omt_some, ckC_20 h.lay, g, cll_some, ltb_def, ofi]
    refine wp_from (FC_good b0) (p2.fc h.rf) (ih (i + 1) f _ (psS D' (dX D 1 n i)) _ (CG_z (z' := z) p1 (fun k hk => by omega)) ⟨sJ_t hs0.1 ⟨rfl, rfl, rfl, rfl, rfl, rfl, rfl, rfl, rfl⟩, sp⟩ (upz_m _ _ _) n1 n2 (by omega) (by omega) (fun τ D'' mo' c1 c2 c3 => K τ D'' mo' c1 c2 (fun n' hn' => by rw [c3 n' hn']; exact if_neg hn')))
theorem drp5 {x : Nat} (hx : x < 2147483648) : ∀ j n f σ D' mo, CG b0 σ C D' mo z 0 → sS D D' → (∀ n', n ≤ n' → mo n' = 0) → dL D < n → n + j = dH D + 1 → (∀ n', n ≤ n' → n' ≤ dH D → dT D 8 n' < fu) → j < f →
    wp (FC b0) σ (L_X1_dropAll_5 b0 fu f (b0 + 20) (if j = 0 then none else some (dT D 0 n)) σ) (fun _ τ => ∃ D'', sS D D'' ∧ CM b0 τ C (noT D'' x)) := by
  intro j
  induction j with
  | zero =>
    intro n f σ D' mo h hs hmo n1 n2 hfu hf
    obtain ⟨f, rfl⟩ : ∃ q, f = q + 1 := ⟨f - 1, by omega⟩
    obtain ⟨e1, e2⟩ := CG_end h hx
    unfold L_X1_dropAll_5
    rw [ltb_def, if_pos rfl, omt_none, ckC_20 h.lay]
    exact wp_ret (e2.fc h.rf) ⟨D', hs, e1⟩
  | succ j ih =>
    intro n f σ D' mo h hs hmo n1 n2 hfu hf
    obtain ⟨f, rfl⟩ : ∃ q, f = q + 1 := ⟨f - 1, by omega⟩
    unfold L_X1_dropAll_5
    rw [ltb_def, if_neg (by omega), omt_some]
    refine drp11 (D := D) (n := n) (dT D 8 n) 0 fu σ D' mo h hs (hmo n (Nat.le_refl _)) n1 (by omega) (by omega) (hfu n (Nat.le_refl _) (by omega)) (fun τ D'' mo' c1 c2 c3 => ?_)
    have := ih (n + 1) f τ D'' mo' c1 c2 (fun n' hn' => by rw [c3 n' (by omega)]; exact hmo n' (by omega)) (by omega) (by omega) (fun n' a b => hfu n' (by omega) b) (by omega)
    by_cases c : n = dH D
    · rw [if_pos c]
      rwa [if_pos (show j = 0 by omega)] at this
    · rw [if_neg c]
      rwa [if_neg (show ¬ j = 0 by omega)] at this
/-- dropAll -/
theorem dropAll_c {x : Nat} (h : CM b0 σ C D) (hx : x < 2147483648) (hfu : ∀ n, dL D < n → n ≤ dH D → dT D 8 n < fu) (hf : dH D - dL D < fu) :
    wp (FC b0) σ (m_X1_dropAll b0 fu (b0 + 20) σ) (fun _ τ => ∃ D', sS D D' ∧ CM b0 τ C (noT D' x)) := by
  have g := CG_of (z := mo0) h
  have o5 := g.old
  refine wp_grw (FC_good b0) ?_
  rw [ckC_20 h.lay, o5.1]
  have k := drp5 (D := D) (z := mo0) (fu := fu) hx (dH D - dL D) (dL D + 1) fu σ D mo0 g ⟨sJ_r D, rfl⟩ (fun _ _ => rfl) (by omega) (by omega) (fun n' a b => hfu n' (by omega) b) hf
  by_cases c : dL D = dH D
  · rw [if_pos c, omt_none]
    rwa [if_pos (show dH D - dL D = 0 by omega)] at k
  · rw [if_neg c, omt_some]
    rwa [if_neg (show ¬ dH D - dL D = 0 by omega)] at k
end FLG
