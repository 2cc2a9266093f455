/-! ===== PURE: the journal's base: setBase with a row; fold ===== -/
section FLD
variable {b0 fu : Nat} {σ τ ρ : tM} {C C' : tS} {D D' : tD} {pl : Nat → Nat × Nat} {mo z : Nat → Nat} {m : Nat}
theorem CG_z {z' : Nat → Nat} (h : CG b0 σ C D mo z m) (e : ∀ k, k < m → z' k = z k) : CG b0 σ C D mo z' m := by
  obtain ⟨c1, c2, c3, pl, c4, c5⟩ := h
  exact ⟨c1, c2, c3, pl, c4, fun k hk => by rw [e k hk]; exact c5 k hk⟩
/-- the last loose row into a place of the base -/
theorem setBaseS_c (h : CG b0 σ C D mo z (m + 1)) {c : Nat} (hc : c < 2034) : wp (FC b0) σ (m_X1_setBase b0 fu (b0 + 20) (nI c) (some (z m)) σ) (fun _ τ => CG b0 τ C (sbJ D c (some (z m))) mo z m) := by
  have L := h.lay
  have e21 : tA σ (b0 + 21) c = dP D 21 c := by
    obtain ⟨-, -, -, pl, ⟨g1, -⟩, -⟩ := h
    exact (g1 21 c (Or.inr (Or.inr ⟨rfl, hc⟩))).1
  have rz : isRow b0 σ (z m) (dW D (z m)) := by
    obtain ⟨-, -, -, pl, -, gz⟩ := h
    exact (gz m (by omega)).1
  refine wp_grw (FC_good b0) ?_
  unfold J_X1_setBase_28 sbJ
  show wp (FC b0) σ (if nI c < nI 0 then _ else if nI 2034 ≤ nI c then _ else _) _
  rw [if_t (by omega) (by omega), if_neg (by omega), if_l (by omega) (by omega), if_neg (by omega), ckC_20 L, osm_p (rfC_20_3 L), ckC_21 L, ckI_n hc (by omega), nI_cl (by omega), e21]
  cases e0 : dP D 21 c with
  | none =>
    obtain ⟨q1, q2, q3⟩ := CG_toB h hc e0
    rw [omt_none, giveN_c, cll_some, ckC_20 L, osm_p (rfC_20_3 L), omt_some, ckC_21 L, ckI_n hc (by omega), ckO_row rz]
    exact wp_ret (q2.fc h.rf) q1
  | some a =>
    obtain ⟨q1, q2, q3⟩ := CG_frB h hc e0
    have w : upz z (m + 1) a (m + 1) = a := if_pos rfl
    obtain ⟨p1, p2, p3, p4⟩ := CG_psh q1
    have g : m_X1_giveRow b0 fu (b0 + 20) (some a) σ = some ((), sA (sA σ a 1 (if dN D = 0 then none else some (dS D (dN D - 1)))) (b0 + 20) 7 (some a)) := by
      have p4 : tA (sA σ (b0 + 21) c none) (b0 + 20) 7 = (if dN D = 0 then none else some (dS D (dN D - 1))) := p4
      rw [rd_A1 _ _ _ _ (by omega)] at p4
      unfold m_X1_giveRow J_X1_giveRow_17
      rw [omt_some, ckC_20 L, p4]
      by_cases d : dN D = 0
      · rw [if_pos d, omt_none, ckO_row q3]
        exact grw_p rfl (Nat.le_refl _) (Nat.le_refl _)
      · rw [if_neg d, omt_some, ckO_row q3]
        exact grw_p rfl (Nat.le_refl _) (Nat.le_refl _)
    rw [w] at p1 p2
    have p1 : CG b0 (sA (sA (sA σ (b0 + 21) c none) a 1 (if dN D = 0 then none else some (dS D (dN D - 1)))) (b0 + 20) 7 (some a)) C (psS (upP D 21 c none) a) mo (upz z (m + 1) a) (m + 1) := p1
    have p2 : NR b0 (sA σ (b0 + 21) c none) (sA (sA (sA σ (b0 + 21) c none) a 1 (if dN D = 0 then none else some (dS D (dN D - 1)))) (b0 + 20) 7 (some a)) := p2
    have nn := NR_t q2 p2
    have al := q3.2.2.2.1.1
    generalize hs : (if dN D = 0 then none else some (dS D (dN D - 1))) = s at g p1 p2 nn
    have p1 := CG_z (z' := z) p1 (fun k hk => (if_neg (show ¬ k = m + 1 by omega)).symm)
    obtain ⟨r1, r2, r3⟩ := CG_toB (c := c) p1 hc (by show (if 21 = 21 ∧ c = c then none else dP D 21 c) = none; rw [if_pos ⟨rfl, rfl⟩])
    have e4 : upP (psS (upP D 21 c none) a) 21 c (some (z m)) = upP (psS D a) 21 c (some (z m)) := by
      have e5 : psS (upP D 21 c none) a = upP (psS D a) 21 c none := rfl
      rw [e5, upP_2]
    have e3 : sA (sA (sA (sA σ (b0 + 21) c none) a 1 s) (b0 + 20) 7 (some a)) (b0 + 21) c (some (z m)) = sA (sA (sA σ a 1 s) (b0 + 20) 7 (some a)) (b0 + 21) c (some (z m)) := sA_over
    rw [omt_some, g, cll_some]
    have n1 : NR b0 σ (sA σ a 1 s) := NR_2 (Or.inr ⟨rfl, _, q3⟩)
    have n2 : NR b0 (sA σ a 1 s) (sA (sA σ a 1 s) (b0 + 20) 7 (some a)) := NR_2 (Or.inl (Or.inr (Or.inr (Or.inr ⟨rfl, by decide, by decide⟩))))
    have n12 := NR_t n1 n2
    have L2 : LayC b0 (sA (sA σ a 1 s) (b0 + 20) 7 (some a)) := (n12.ca h.ca).lay
    rw [ckC_20 L2, osm_p (rfC_20_3 L2), omt_some, ckC_21 L2, ckI_n hc (by omega), ckO_row (n12.row rz), ← e3]
    rw [e4] at r1
    exact wp_ret ((NR_t nn r2).fc h.rf) r1
/-- the same transactions and words; nothing made -/
def sJ (D D' : tD) : Prop := dW D' = dW D ∧ dT D' = dT D ∧ dX D' = dX D ∧ dL D' = dL D ∧ dH D' = dH D ∧ dE D' = dE D ∧ dO D' = dO D ∧ dP D' 3 = dP D 3 ∧ dP D' 8 = dP D 8
theorem sJ_r (D : tD) : sJ D D := ⟨rfl, rfl, rfl, rfl, rfl, rfl, rfl, rfl, rfl⟩
theorem sJ_t {D'' : tD} (h : sJ D D') (k : sJ D' D'') : sJ D D'' := by
  obtain ⟨a1, a2, a3, a4, a5, a6, a7, a8, a9⟩ := h
  obtain ⟨b1, b2, b3, b4, b5, b6, b7, b8, b9⟩ := k
  exact ⟨b1.trans a1, b2.trans a2, b3.trans a3, b4.trans a4, b5.trans a5, b6.trans a6, b7.trans a7, b8.trans a8, b9.trans a9⟩
theorem sJ_sb {c : Nat} {v : Option Nat} : sJ D (sbJ D c v) ∧ ∀ k, dP (sbJ D c v) 21 k = if k = c then v else dP D 21 k := by
  have q : ∀ (E : tD), sJ D E → dP E 21 = dP D 21 → sJ D (upP E 21 c v) ∧ ∀ k, dP (upP E 21 c v) 21 k = if k = c then v else dP D 21 k := fun E hE e21 => by
    obtain ⟨a1, a2, a3, a4, a5, a6, a7, a8, a9⟩ := hE
    refine ⟨⟨a1, a2, a3, a4, a5, a6, a7, ?_, ?_⟩, fun k => ?_⟩
    · funext k
      show (if 3 = 21 ∧ k = c then v else dP E 3 k) = _
      rw [if_neg (by omega), a8]
    · funext k
      show (if 8 = 21 ∧ k = c then v else dP E 8 k) = _
      rw [if_neg (by omega), a9]
    · show (if 21 = 21 ∧ k = c then v else dP E 21 k) = _
      rw [e21]
      by_cases d : k = c
      · rw [if_pos ⟨rfl, d⟩, if_pos d]
      · rw [if_neg (fun e => d e.2), if_neg d]
  unfold sbJ
  cases e : dP D 21 c with
  | none => exact q D (sJ_r D) rfl
  | some a => exact q (psS D a) ⟨rfl, rfl, rfl, rfl, rfl, rfl, rfl, rfl, rfl⟩ rfl
/-- the first transaction -/
theorem CG.tx (h : CG b0 σ C D mo z m) {n : Nat} (n1 : dL D < n) (n2 : n ≤ dH D) : ∃ pl, isTm b0 σ D pl n (mo n) := by
  obtain ⟨-, -, -, pl, ⟨-, -, -, g8⟩, -⟩ := h
  exact ⟨pl, g8 n n1 n2⟩
theorem CG.old (h : CG b0 σ C D mo z m) : tA σ (b0 + 20) 5 = (if dL D = dH D then none else some (dT D 0 (dL D + 1))) ∧ dL D ≤ dH D ∧ dH D < 2147483648 := by
  obtain ⟨-, -, -, pl, ⟨-, -, ⟨g4, g5, g6, -⟩, -⟩, -⟩ := h
  exact ⟨g6, g4, g5⟩
theorem ckO_tx {β : Type} {n m' : Nat} {k : Option β} (h : isTm b0 σ D pl n m') : ckO b0 σ (dT D 0 n) 7 k = k := ckO_p h.1.1 ⟨by have := h.2.1.1.1; omega, by have := h.2.1.1.2.1; omega⟩
theorem ckR_tx {β : Type} {n m' : Nat} {k : Nat → Option β} (h : isTm b0 σ D pl n m') : ckR b0 σ (dT D 5 n) 0 k = k (dT D 8 n) ∧ ckR b0 σ (dT D 6 n) 4 k = k (dT D 8 n) ∧ ckR b0 σ (dT D 7 n) 0 k = k (dT D 9 n) :=
  ⟨ckR_p h.1.2.1 ⟨by have := h.2.1.2.1.1; omega, by have := h.2.1.2.1.2.1; omega⟩, ckR_p h.1.2.2.1 ⟨by have := h.2.1.2.2.1.1; omega, by have := h.2.1.2.2.1.2.1; omega⟩, ckR_p h.1.2.2.2 ⟨by have := h.2.1.2.2.2.1; omega, by have := h.2.1.2.2.2.2.1; omega⟩⟩
theorem tx_8 {n m' : Nat} (h : isTm b0 σ D pl n m') : dT D 8 n < 2147483648 ∧ dT D 9 n < 2147483648 ∧ dT D 2 n < 2147483648 ∧ dT D 3 n < 2147483648 ∧ dT D 4 n < 2147483648 := by
  have k := h.2.2.2.2.1
  refine ⟨?_, ?_, ?_, ?_, ?_⟩
  · have := k 8; omega
  · have := k 9; omega
  · have := k 2; omega
  · have := k 3; omega
  · have := k 4; omega
/-- the first transaction leaves the list -/
def dL1 (D : tD) : tD := (D.1, D.2.1, D.2.2.1, D.2.2.2.1, D.2.2.2.2.1, D.2.2.2.2.2.1, dL D + 1, D.2.2.2.2.2.2.2)
end FLD
