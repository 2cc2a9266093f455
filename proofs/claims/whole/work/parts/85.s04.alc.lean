/-! ===== PURE: cells are made (written by wip/gen/gen_al.py) ===== -/
def uK (K : Nat → Nat ⊕ (Nat × Nat)) (k : Nat) (kd : Nat ⊕ (Nat × Nat)) : Nat → Nat ⊕ (Nat × Nat) := fun i => if i = k then kd else K i
def uR (R : Nat → Nat → Option Nat) (i j : Nat) (v : Option Nat) : Nat → Nat → Option Nat := fun x y => if x = i ∧ y = j then v else R x y
def nR (R : Nat → Nat → Option Nat) (k : Nat) : Nat → Nat → Option Nat := fun x y => if x = k then none else R x y
/-- cells from the β-th on are new: their kinds, what they point to; all else in them is zero -/
def MB (b0 β : Nat) (τ0 σ : tM) (k u : Nat) (K : Nat → Nat ⊕ (Nat × Nat)) (R : Nat → Nat → Option Nat) : Prop := tn σ = k ∧ tu σ = u ∧ (∀ i, i < β → same τ0 σ (b0 + i)) ∧ β ≤ k ∧ ∀ i, β ≤ i → i < k → tk σ (b0 + i) = K i ∧ ∀ j, tI σ (b0 + i) j = 0 ∧ tL σ (b0 + i) j = 0 ∧ tA σ (b0 + i) j = R i j
section MBS
variable {b0 β k k' u u' i j c n : Nat} {τ0 σ : tM} {K : Nat → Nat ⊕ (Nat × Nat)} {R : Nat → Nat → Option Nat} {kd : Nat ⊕ (Nat × Nat)} {v : Option Nat}
theorem MB_N (h : MB b0 β τ0 σ k u K R) (e : k' = k + 1) : MB b0 β τ0 (sN σ (b0 + k) kd n) k' (u + n) (uK K k kd) (nR R k) := by
  obtain ⟨h1, h2, h3, h4, h5⟩ := h
  refine ⟨by rw [rd_nN, h1, e], by rw [rd_uN, h2], fun i hi => same_t (h3 i hi) (same_sN (by omega)), by omega, fun i hb hi => ?_⟩
  by_cases c : i = k
  · subst c
    refine ⟨?_, fun j => ⟨?_, ?_, ?_⟩⟩
    · rw [rd_kN, if_pos rfl]
      show _ = (if i = i then kd else K i)
      rw [if_pos rfl]
    · rw [rd_IN, if_pos rfl]
    · rw [rd_LN, if_pos rfl]
    · rw [rd_AN, if_pos rfl]
      show _ = (if i = i then none else R i j)
      rw [if_pos rfl]
  · obtain ⟨m1, m2⟩ := h5 i hb (by omega)
    have s := same_sN (σ := σ) (a := b0 + k) (k := kd) (n := n) (show b0 + i ≠ b0 + k by omega)
    refine ⟨?_, fun j => ⟨?_, ?_, ?_⟩⟩
    · rw [s.1]
      show _ = (if i = k then kd else K i)
      rw [if_neg c]
      exact m1
    · rw [s.2.1]
      exact (m2 j).1
    · rw [s.2.2.1]
      exact (m2 j).2.1
    · rw [s.2.2.2]
      show _ = (if i = k then none else R i j)
      rw [if_neg c]
      exact (m2 j).2.2
theorem MB_A (h : MB b0 β τ0 σ k u K R) (hb : β ≤ i) (hi : i < k) : MB b0 β τ0 (sA σ (b0 + i) j v) k u K (uR R i j v) := by
  obtain ⟨h1, h2, h3, h4, h5⟩ := h
  refine ⟨h1, h2, fun x hx => same_t (h3 x hx) ⟨rfl, rfl, rfl, ?_⟩, h4, fun x hb' hx => ?_⟩
  · funext y
    rw [rd_AA, if_neg (by omega)]
  · obtain ⟨m1, m2⟩ := h5 x hb' hx
    refine ⟨m1, fun y => ⟨(m2 y).1, (m2 y).2.1, ?_⟩⟩
    rw [rd_AA]
    show _ = (if x = i ∧ y = j then v else R x y)
    by_cases c : x = i
    · by_cases c2 : y = j
      · rw [if_pos (by omega), if_pos c2, if_pos ⟨c, c2⟩]
      · rw [if_pos (by omega), if_neg c2, if_neg (fun q => c2 q.2)]
        exact (m2 y).2.2
    · rw [if_neg (by omega), if_neg (fun q => c q.1)]
      exact (m2 y).2.2
theorem MB_ck {β' : Type} {X : Option β'} (h : MB b0 β τ0 σ k u K R) (hb : β ≤ i) (hi : i < k) (hK : K i = .inl c) : ckO b0 σ (b0 + i) c X = X := by
  obtain ⟨h1, h2, h3, h4, h5⟩ := h
  exact ckO_p ((h5 i hb hi).1.trans hK) ⟨Nat.le_add_right _ _, by omega⟩
theorem MB_ckR {β' : Type} {F : Nat → Option β'} {t n : Nat} (h : MB b0 β τ0 σ k u K R) (hb : β ≤ i) (hi : i < k) (hK : K i = .inr (t, n)) : ckR b0 σ (b0 + i) t F = F n := by
  obtain ⟨h1, h2, h3, h4, h5⟩ := h
  exact ckR_p ((h5 i hb hi).1.trans hK) ⟨Nat.le_add_right _ _, by omega⟩
theorem MB_rf (h : MB b0 β τ0 σ k u K R) (hb : β ≤ i) (hi : i < k) : tA σ (b0 + i) j = R i j := by
  obtain ⟨h1, h2, h3, h4, h5⟩ := h
  exact ((h5 i hb hi).2 j).2.2
theorem X0_b {b0 fu u : Nat} {τ0 σ : tM} {K : Nat → Nat ⊕ (Nat × Nat)} {R : Nat → Nat → Option Nat} {Q : Option (Unit × tM) → Prop} (h : MB b0 0 τ0 σ 2 u K R) (hK : K 1 = .inl 0) (kk : ∀ τ, MB b0 0 τ0 τ 10 ((((((((u + 6130) + 6130) + 6130) + 6130) + 256) + 256) + 256) + 256) (uK (uK (uK (uK (uK (uK (uK (uK K 2 (.inr (0, 6130))) 3 (.inr (4, 6130))) 4 (.inr (0, 6130))) 5 (.inr (0, 6130))) 6 (.inr (0, 256))) 7 (.inr (0, 256))) 8 (.inr (4, 256))) 9 (.inr (2, 256))) (uR (nR (uR (nR (uR (nR (uR (nR (uR (nR (uR (nR (uR (nR (uR (nR R 2) 1 0 (some (b0 + 2))) 3) 1 1 (some (b0 + 3))) 4) 1 2 (some (b0 + 4))) 5) 1 3 (some (b0 + 5))) 6) 1 4 (some (b0 + 6))) 7) 1 5 (some (b0 + 7))) 8) 1 6 (some (b0 + 8))) 9) 1 7 (some (b0 + 9))) → Q (some ((), τ))) : Q (m_X0_init b0 fu (b0 + 1) σ) := by
  unfold m_X0_init
  simp only [show ((6130 : Int32)).toNatClampNeg = 6130 from rfl, show ((256 : Int32)).toNatClampNeg = 256 from rfl]
  rw [ltb_def, h.1]
  have h1 := MB_N (k' := 3) (kd := .inr (0, 6130)) (n := 6130) h rfl
  generalize sN σ (b0 + 2) (.inr (0, 6130)) 6130 = ρ2 at h1 ⊢
  rw [MB_ck h1 (i := 1) (c := 0) (by omega) (by omega) hK]
  have g3 := MB_A (i := 1) (j := 0) (v := some (b0 + 2)) h1 (by omega) (by omega)
  generalize sA ρ2 (b0 + 1) 0 (some (b0 + 2)) = π4 at g3 ⊢
  rw [ltb_def, h1.1]
  have h5 := MB_N (k' := 4) (kd := .inr (4, 6130)) (n := 6130) g3 rfl
  generalize sN π4 (b0 + 3) (.inr (4, 6130)) 6130 = ρ6 at h5 ⊢
  rw [MB_ck h5 (i := 1) (c := 0) (by omega) (by omega) hK]
  have g7 := MB_A (i := 1) (j := 1) (v := some (b0 + 3)) h5 (by omega) (by omega)
  generalize sA ρ6 (b0 + 1) 1 (some (b0 + 3)) = π8 at g7 ⊢
  rw [ltb_def, h5.1]
  have h9 := MB_N (k' := 5) (kd := .inr (0, 6130)) (n := 6130) g7 rfl
  generalize sN π8 (b0 + 4) (.inr (0, 6130)) 6130 = ρ10 at h9 ⊢
  rw [MB_ck h9 (i := 1) (c := 0) (by omega) (by omega) hK]
  have g11 := MB_A (i := 1) (j := 2) (v := some (b0 + 4)) h9 (by omega) (by omega)
  generalize sA ρ10 (b0 + 1) 2 (some (b0 + 4)) = π12 at g11 ⊢
  rw [ltb_def, h9.1]
  have h13 := MB_N (k' := 6) (kd := .inr (0, 6130)) (n := 6130) g11 rfl
  generalize sN π12 (b0 + 5) (.inr (0, 6130)) 6130 = ρ14 at h13 ⊢
  rw [MB_ck h13 (i := 1) (c := 0) (by omega) (by omega) hK]
  have g15 := MB_A (i := 1) (j := 3) (v := some (b0 + 5)) h13 (by omega) (by omega)
  generalize sA ρ14 (b0 + 1) 3 (some (b0 + 5)) = π16 at g15 ⊢
  rw [ltb_def, h13.1]
  have h17 := MB_N (k' := 7) (kd := .inr (0, 256)) (n := 256) g15 rfl
  generalize sN π16 (b0 + 6) (.inr (0, 256)) 256 = ρ18 at h17 ⊢
  rw [MB_ck h17 (i := 1) (c := 0) (by omega) (by omega) hK]
  have g19 := MB_A (i := 1) (j := 4) (v := some (b0 + 6)) h17 (by omega) (by omega)
  generalize sA ρ18 (b0 + 1) 4 (some (b0 + 6)) = π20 at g19 ⊢
  rw [ltb_def, h17.1]
  have h21 := MB_N (k' := 8) (kd := .inr (0, 256)) (n := 256) g19 rfl
  generalize sN π20 (b0 + 7) (.inr (0, 256)) 256 = ρ22 at h21 ⊢
  rw [MB_ck h21 (i := 1) (c := 0) (by omega) (by omega) hK]
  have g23 := MB_A (i := 1) (j := 5) (v := some (b0 + 7)) h21 (by omega) (by omega)
  generalize sA ρ22 (b0 + 1) 5 (some (b0 + 7)) = π24 at g23 ⊢
  rw [ltb_def, h21.1]
  have h25 := MB_N (k' := 9) (kd := .inr (4, 256)) (n := 256) g23 rfl
  generalize sN π24 (b0 + 8) (.inr (4, 256)) 256 = ρ26 at h25 ⊢
  rw [MB_ck h25 (i := 1) (c := 0) (by omega) (by omega) hK]
  have g27 := MB_A (i := 1) (j := 6) (v := some (b0 + 8)) h25 (by omega) (by omega)
  generalize sA ρ26 (b0 + 1) 6 (some (b0 + 8)) = π28 at g27 ⊢
  rw [ltb_def, h25.1]
  have h29 := MB_N (k' := 10) (kd := .inr (2, 256)) (n := 256) g27 rfl
  generalize sN π28 (b0 + 9) (.inr (2, 256)) 256 = ρ30 at h29 ⊢
  rw [MB_ck h29 (i := 1) (c := 0) (by omega) (by omega) hK]
  have g31 := MB_A (i := 1) (j := 7) (v := some (b0 + 9)) h29 (by omega) (by omega)
  generalize sA ρ30 (b0 + 1) 7 (some (b0 + 9)) = π32 at g31 ⊢
  rw [grw_p rfl (by rw [h.1, g31.1]; omega) (by rw [h.2.1, g31.2.1]; omega)]
  exact kk _ g31
theorem X0_e {b0 fu u : Nat} {τ0 σ : tM} {K : Nat → Nat ⊕ (Nat × Nat)} {R : Nat → Nat → Option Nat} (h : MB b0 0 τ0 σ 2 u K R) (hK : K 1 = .inl 0) : ∃ τ, m_X0_init b0 fu (b0 + 1) σ = some ((), τ) ∧ MB b0 0 τ0 τ 10 ((((((((u + 6130) + 6130) + 6130) + 6130) + 256) + 256) + 256) + 256) (uK (uK (uK (uK (uK (uK (uK (uK K 2 (.inr (0, 6130))) 3 (.inr (4, 6130))) 4 (.inr (0, 6130))) 5 (.inr (0, 6130))) 6 (.inr (0, 256))) 7 (.inr (0, 256))) 8 (.inr (4, 256))) 9 (.inr (2, 256))) (uR (nR (uR (nR (uR (nR (uR (nR (uR (nR (uR (nR (uR (nR (uR (nR R 2) 1 0 (some (b0 + 2))) 3) 1 1 (some (b0 + 3))) 4) 1 2 (some (b0 + 4))) 5) 1 3 (some (b0 + 5))) 6) 1 4 (some (b0 + 6))) 7) 1 5 (some (b0 + 7))) 8) 1 6 (some (b0 + 8))) 9) 1 7 (some (b0 + 9))) := X0_b (Q := fun x => ∃ τ, x = some ((), τ) ∧ MB b0 0 τ0 τ 10 ((((((((u + 6130) + 6130) + 6130) + 6130) + 256) + 256) + 256) + 256) (uK (uK (uK (uK (uK (uK (uK (uK K 2 (.inr (0, 6130))) 3 (.inr (4, 6130))) 4 (.inr (0, 6130))) 5 (.inr (0, 6130))) 6 (.inr (0, 256))) 7 (.inr (0, 256))) 8 (.inr (4, 256))) 9 (.inr (2, 256))) (uR (nR (uR (nR (uR (nR (uR (nR (uR (nR (uR (nR (uR (nR (uR (nR R 2) 1 0 (some (b0 + 2))) 3) 1 1 (some (b0 + 3))) 4) 1 2 (some (b0 + 4))) 5) 1 3 (some (b0 + 5))) 6) 1 4 (some (b0 + 6))) 7) 1 5 (some (b0 + 7))) 8) 1 6 (some (b0 + 8))) 9) 1 7 (some (b0 + 9)))) h hK (fun τ m => ⟨τ, rfl, m⟩)
theorem X5_b {b0 fu u : Nat} {τ0 σ : tM} {K : Nat → Nat ⊕ (Nat × Nat)} {R : Nat → Nat → Option Nat} {Q : Option (Unit × tM) → Prop} (h : MB b0 0 τ0 σ 11 u K R) (hK : K 10 = .inl 5) (kk : ∀ τ, MB b0 0 τ0 τ 18 (((((((u + 65536) + 2034) + 2034) + 2034) + 2034) + 2034) + 2034) (uK (uK (uK (uK (uK (uK (uK K 11 (.inr (3, 65536))) 12 (.inr (0, 2034))) 13 (.inr (0, 2034))) 14 (.inr (1, 2034))) 15 (.inr (1, 2034))) 16 (.inr (1, 2034))) 17 (.inr (1, 2034))) (uR (nR (uR (nR (uR (nR (uR (nR (uR (nR (uR (nR (uR (nR R 11) 10 0 (some (b0 + 11))) 12) 10 1 (some (b0 + 12))) 13) 10 2 (some (b0 + 13))) 14) 10 3 (some (b0 + 14))) 15) 10 4 (some (b0 + 15))) 16) 10 5 (some (b0 + 16))) 17) 10 6 (some (b0 + 17))) → Q (some ((), τ))) : Q (m_X5_init b0 fu (b0 + 10) σ) := by
  unfold m_X5_init
  simp only [show ((65536 : Int32)).toNatClampNeg = 65536 from rfl, show ((2034 : Int32)).toNatClampNeg = 2034 from rfl]
  rw [ltb_def, h.1]
  have h1 := MB_N (k' := 12) (kd := .inr (3, 65536)) (n := 65536) h rfl
  generalize sN σ (b0 + 11) (.inr (3, 65536)) 65536 = ρ2 at h1 ⊢
  rw [MB_ck h1 (i := 10) (c := 5) (by omega) (by omega) hK]
  have g3 := MB_A (i := 10) (j := 0) (v := some (b0 + 11)) h1 (by omega) (by omega)
  generalize sA ρ2 (b0 + 10) 0 (some (b0 + 11)) = π4 at g3 ⊢
  rw [ltb_def, h1.1]
  have h5 := MB_N (k' := 13) (kd := .inr (0, 2034)) (n := 2034) g3 rfl
  generalize sN π4 (b0 + 12) (.inr (0, 2034)) 2034 = ρ6 at h5 ⊢
  rw [MB_ck h5 (i := 10) (c := 5) (by omega) (by omega) hK]
  have g7 := MB_A (i := 10) (j := 1) (v := some (b0 + 12)) h5 (by omega) (by omega)
  generalize sA ρ6 (b0 + 10) 1 (some (b0 + 12)) = π8 at g7 ⊢
  rw [ltb_def, h5.1]
  have h9 := MB_N (k' := 14) (kd := .inr (0, 2034)) (n := 2034) g7 rfl
  generalize sN π8 (b0 + 13) (.inr (0, 2034)) 2034 = ρ10 at h9 ⊢
  rw [MB_ck h9 (i := 10) (c := 5) (by omega) (by omega) hK]
  have g11 := MB_A (i := 10) (j := 2) (v := some (b0 + 13)) h9 (by omega) (by omega)
  generalize sA ρ10 (b0 + 10) 2 (some (b0 + 13)) = π12 at g11 ⊢
  rw [ltb_def, h9.1]
  have h13 := MB_N (k' := 15) (kd := .inr (1, 2034)) (n := 2034) g11 rfl
  generalize sN π12 (b0 + 14) (.inr (1, 2034)) 2034 = ρ14 at h13 ⊢
  rw [MB_ck h13 (i := 10) (c := 5) (by omega) (by omega) hK]
  have g15 := MB_A (i := 10) (j := 3) (v := some (b0 + 14)) h13 (by omega) (by omega)
  generalize sA ρ14 (b0 + 10) 3 (some (b0 + 14)) = π16 at g15 ⊢
  rw [ltb_def, h13.1]
  have h17 := MB_N (k' := 16) (kd := .inr (1, 2034)) (n := 2034) g15 rfl
  generalize sN π16 (b0 + 15) (.inr (1, 2034)) 2034 = ρ18 at h17 ⊢
  rw [MB_ck h17 (i := 10) (c := 5) (by omega) (by omega) hK]
  have g19 := MB_A (i := 10) (j := 4) (v := some (b0 + 15)) h17 (by omega) (by omega)
  generalize sA ρ18 (b0 + 10) 4 (some (b0 + 15)) = π20 at g19 ⊢
  rw [ltb_def, h17.1]
  have h21 := MB_N (k' := 17) (kd := .inr (1, 2034)) (n := 2034) g19 rfl
  generalize sN π20 (b0 + 16) (.inr (1, 2034)) 2034 = ρ22 at h21 ⊢
  rw [MB_ck h21 (i := 10) (c := 5) (by omega) (by omega) hK]
  have g23 := MB_A (i := 10) (j := 5) (v := some (b0 + 16)) h21 (by omega) (by omega)
  generalize sA ρ22 (b0 + 10) 5 (some (b0 + 16)) = π24 at g23 ⊢
  rw [ltb_def, h21.1]
  have h25 := MB_N (k' := 18) (kd := .inr (1, 2034)) (n := 2034) g23 rfl
  generalize sN π24 (b0 + 17) (.inr (1, 2034)) 2034 = ρ26 at h25 ⊢
  rw [MB_ck h25 (i := 10) (c := 5) (by omega) (by omega) hK]
  have g27 := MB_A (i := 10) (j := 6) (v := some (b0 + 17)) h25 (by omega) (by omega)
  generalize sA ρ26 (b0 + 10) 6 (some (b0 + 17)) = π28 at g27 ⊢
  rw [grw_p rfl (by rw [h.1, g27.1]; omega) (by rw [h.2.1, g27.2.1]; omega)]
  exact kk _ g27
theorem X5_e {b0 fu u : Nat} {τ0 σ : tM} {K : Nat → Nat ⊕ (Nat × Nat)} {R : Nat → Nat → Option Nat} (h : MB b0 0 τ0 σ 11 u K R) (hK : K 10 = .inl 5) : ∃ τ, m_X5_init b0 fu (b0 + 10) σ = some ((), τ) ∧ MB b0 0 τ0 τ 18 (((((((u + 65536) + 2034) + 2034) + 2034) + 2034) + 2034) + 2034) (uK (uK (uK (uK (uK (uK (uK K 11 (.inr (3, 65536))) 12 (.inr (0, 2034))) 13 (.inr (0, 2034))) 14 (.inr (1, 2034))) 15 (.inr (1, 2034))) 16 (.inr (1, 2034))) 17 (.inr (1, 2034))) (uR (nR (uR (nR (uR (nR (uR (nR (uR (nR (uR (nR (uR (nR R 11) 10 0 (some (b0 + 11))) 12) 10 1 (some (b0 + 12))) 13) 10 2 (some (b0 + 13))) 14) 10 3 (some (b0 + 14))) 15) 10 4 (some (b0 + 15))) 16) 10 5 (some (b0 + 16))) 17) 10 6 (some (b0 + 17))) := X5_b (Q := fun x => ∃ τ, x = some ((), τ) ∧ MB b0 0 τ0 τ 18 (((((((u + 65536) + 2034) + 2034) + 2034) + 2034) + 2034) + 2034) (uK (uK (uK (uK (uK (uK (uK K 11 (.inr (3, 65536))) 12 (.inr (0, 2034))) 13 (.inr (0, 2034))) 14 (.inr (1, 2034))) 15 (.inr (1, 2034))) 16 (.inr (1, 2034))) 17 (.inr (1, 2034))) (uR (nR (uR (nR (uR (nR (uR (nR (uR (nR (uR (nR (uR (nR R 11) 10 0 (some (b0 + 11))) 12) 10 1 (some (b0 + 12))) 13) 10 2 (some (b0 + 13))) 14) 10 3 (some (b0 + 14))) 15) 10 4 (some (b0 + 15))) 16) 10 5 (some (b0 + 16))) 17) 10 6 (some (b0 + 17)))) h hK (fun τ m => ⟨τ, rfl, m⟩)
theorem X8_b {b0 fu u : Nat} {τ0 σ : tM} {K : Nat → Nat ⊕ (Nat × Nat)} {R : Nat → Nat → Option Nat} {Q : Option (Unit × tM) → Prop} (h : MB b0 0 τ0 σ 19 u K R) (hK : K 18 = .inl 8) (hK2 : K 10 = .inl 5) (hR : R 10 0 = some (b0 + 11)) (kk : ∀ τ, MB b0 0 τ0 τ 20 (u + 64) (uK K 19 (.inr (1, 64))) (uR (uR (uR (nR R 19) 18 2 (some (b0 + 19))) 18 0 (some (b0 + 10))) 18 1 (some (b0 + 11))) → Q (some ((), τ))) : Q (m_X8_init b0 fu (b0 + 18) (b0 + 10) σ) := by
  unfold m_X8_init
  simp only [show ((64 : Int32)).toNatClampNeg = 64 from rfl]
  rw [ltb_def, h.1]
  have h1 := MB_N (k' := 20) (kd := .inr (1, 64)) (n := 64) h rfl
  generalize sN σ (b0 + 19) (.inr (1, 64)) 64 = ρ2 at h1 ⊢
  rw [MB_ck h1 (i := 18) (c := 8) (by omega) (by omega) hK]
  have g3 := MB_A (i := 18) (j := 2) (v := some (b0 + 19)) h1 (by omega) (by omega)
  generalize sA ρ2 (b0 + 18) 2 (some (b0 + 19)) = π4 at g3 ⊢
  have g5 := MB_A (i := 18) (j := 0) (v := some (b0 + 10)) g3 (by omega) (by omega)
  generalize sA π4 (b0 + 18) 0 (some (b0 + 10)) = π6 at g5 ⊢
  rw [MB_ck g5 (i := 10) (c := 5) (by omega) (by omega) hK2]
  rw [osm_p (show tA π6 (b0 + 10) 0 = some (b0 + 11) from (MB_rf g5 (by omega) (by omega)).trans hR)]
  have g7 := MB_A (i := 18) (j := 1) (v := some (b0 + 11)) g5 (by omega) (by omega)
  generalize sA π6 (b0 + 18) 1 (some (b0 + 11)) = π8 at g7 ⊢
  rw [grw_p rfl (by rw [h.1, g7.1]; omega) (by rw [h.2.1, g7.2.1]; omega)]
  exact kk _ g7
theorem X8_e {b0 fu u : Nat} {τ0 σ : tM} {K : Nat → Nat ⊕ (Nat × Nat)} {R : Nat → Nat → Option Nat} (h : MB b0 0 τ0 σ 19 u K R) (hK : K 18 = .inl 8) (hK2 : K 10 = .inl 5) (hR : R 10 0 = some (b0 + 11)) : ∃ τ, m_X8_init b0 fu (b0 + 18) (b0 + 10) σ = some ((), τ) ∧ MB b0 0 τ0 τ 20 (u + 64) (uK K 19 (.inr (1, 64))) (uR (uR (uR (nR R 19) 18 2 (some (b0 + 19))) 18 0 (some (b0 + 10))) 18 1 (some (b0 + 11))) := X8_b (Q := fun x => ∃ τ, x = some ((), τ) ∧ MB b0 0 τ0 τ 20 (u + 64) (uK K 19 (.inr (1, 64))) (uR (uR (uR (nR R 19) 18 2 (some (b0 + 19))) 18 0 (some (b0 + 10))) 18 1 (some (b0 + 11)))) h hK hK2 hR (fun τ m => ⟨τ, rfl, m⟩)
theorem X1_b {b0 fu u : Nat} {τ0 σ : tM} {K : Nat → Nat ⊕ (Nat × Nat)} {R : Nat → Nat → Option Nat} {Q : Option (Unit × tM) → Prop} (h : MB b0 0 τ0 σ 21 u K R) (hK : K 20 = .inl 1) (kk : ∀ τ, MB b0 0 τ0 τ 23 ((u + 2034) + 2034) (uK (uK K 21 (.inr (4, 2034))) 22 (.inr (1, 2034))) (uR (uR (uR (uR (nR (uR (nR R 21) 20 3 (some (b0 + 21))) 22) 20 4 (some (b0 + 22))) 20 0 (some (b0 + 1))) 20 1 (some (b0 + 10))) 20 2 (some (b0 + 18))) → Q (some ((), τ))) : Q (m_X1_init b0 fu (b0 + 20) (b0 + 1) (b0 + 10) (b0 + 18) σ) := by
  unfold m_X1_init
  simp only [show ((2034 : Int32)).toNatClampNeg = 2034 from rfl]
  rw [ltb_def, h.1]
  have h1 := MB_N (k' := 22) (kd := .inr (4, 2034)) (n := 2034) h rfl
  generalize sN σ (b0 + 21) (.inr (4, 2034)) 2034 = ρ2 at h1 ⊢
  rw [MB_ck h1 (i := 20) (c := 1) (by omega) (by omega) hK]
  have g3 := MB_A (i := 20) (j := 3) (v := some (b0 + 21)) h1 (by omega) (by omega)
  generalize sA ρ2 (b0 + 20) 3 (some (b0 + 21)) = π4 at g3 ⊢
  rw [ltb_def, h1.1]
  have h5 := MB_N (k' := 23) (kd := .inr (1, 2034)) (n := 2034) g3 rfl
  generalize sN π4 (b0 + 22) (.inr (1, 2034)) 2034 = ρ6 at h5 ⊢
  rw [MB_ck h5 (i := 20) (c := 1) (by omega) (by omega) hK]
  have g7 := MB_A (i := 20) (j := 4) (v := some (b0 + 22)) h5 (by omega) (by omega)
  generalize sA ρ6 (b0 + 20) 4 (some (b0 + 22)) = π8 at g7 ⊢
  have g9 := MB_A (i := 20) (j := 0) (v := some (b0 + 1)) g7 (by omega) (by omega)
  generalize sA π8 (b0 + 20) 0 (some (b0 + 1)) = π10 at g9 ⊢
  have g11 := MB_A (i := 20) (j := 1) (v := some (b0 + 10)) g9 (by omega) (by omega)
  generalize sA π10 (b0 + 20) 1 (some (b0 + 10)) = π12 at g11 ⊢
  have g13 := MB_A (i := 20) (j := 2) (v := some (b0 + 18)) g11 (by omega) (by omega)
  generalize sA π12 (b0 + 20) 2 (some (b0 + 18)) = π14 at g13 ⊢
  rw [grw_p rfl (by rw [h.1, g13.1]; omega) (by rw [h.2.1, g13.2.1]; omega)]
  exact kk _ g13
theorem X1_e {b0 fu u : Nat} {τ0 σ : tM} {K : Nat → Nat ⊕ (Nat × Nat)} {R : Nat → Nat → Option Nat} (h : MB b0 0 τ0 σ 21 u K R) (hK : K 20 = .inl 1) : ∃ τ, m_X1_init b0 fu (b0 + 20) (b0 + 1) (b0 + 10) (b0 + 18) σ = some ((), τ) ∧ MB b0 0 τ0 τ 23 ((u + 2034) + 2034) (uK (uK K 21 (.inr (4, 2034))) 22 (.inr (1, 2034))) (uR (uR (uR (uR (nR (uR (nR R 21) 20 3 (some (b0 + 21))) 22) 20 4 (some (b0 + 22))) 20 0 (some (b0 + 1))) 20 1 (some (b0 + 10))) 20 2 (some (b0 + 18))) := X1_b (Q := fun x => ∃ τ, x = some ((), τ) ∧ MB b0 0 τ0 τ 23 ((u + 2034) + 2034) (uK (uK K 21 (.inr (4, 2034))) 22 (.inr (1, 2034))) (uR (uR (uR (uR (nR (uR (nR R 21) 20 3 (some (b0 + 21))) 22) 20 4 (some (b0 + 22))) 20 0 (some (b0 + 1))) 20 1 (some (b0 + 10))) 20 2 (some (b0 + 18)))) h hK (fun τ m => ⟨τ, rfl, m⟩)
theorem X2_b {b0 fu u : Nat} {τ0 σ : tM} {K : Nat → Nat ⊕ (Nat × Nat)} {R : Nat → Nat → Option Nat} {Q : Option (Unit × tM) → Prop} (h : MB b0 0 τ0 σ 24 u K R) (hK : K 23 = .inl 2) (kk : ∀ τ, MB b0 0 τ0 τ 24 u K (uR (uR (uR (uR R 23 0 (some (b0 + 1))) 23 1 (some (b0 + 10))) 23 2 (some (b0 + 18))) 23 3 (some (b0 + 20))) → Q (some ((), τ))) : Q (m_X2_init b0 fu (b0 + 23) (b0 + 1) (b0 + 10) (b0 + 18) (b0 + 20) σ) := by
  unfold m_X2_init
  rw [MB_ck h (i := 23) (c := 2) (by omega) (by omega) hK]
  have g1 := MB_A (i := 23) (j := 0) (v := some (b0 + 1)) h (by omega) (by omega)
  generalize sA σ (b0 + 23) 0 (some (b0 + 1)) = π2 at g1 ⊢
  have g3 := MB_A (i := 23) (j := 1) (v := some (b0 + 10)) g1 (by omega) (by omega)
  generalize sA π2 (b0 + 23) 1 (some (b0 + 10)) = π4 at g3 ⊢
  have g5 := MB_A (i := 23) (j := 2) (v := some (b0 + 18)) g3 (by omega) (by omega)
  generalize sA π4 (b0 + 23) 2 (some (b0 + 18)) = π6 at g5 ⊢
  have g7 := MB_A (i := 23) (j := 3) (v := some (b0 + 20)) g5 (by omega) (by omega)
  generalize sA π6 (b0 + 23) 3 (some (b0 + 20)) = π8 at g7 ⊢
  rw [grw_p rfl (by rw [h.1, g7.1]; omega) (by rw [h.2.1, g7.2.1]; omega)]
  exact kk _ g7
theorem X2_e {b0 fu u : Nat} {τ0 σ : tM} {K : Nat → Nat ⊕ (Nat × Nat)} {R : Nat → Nat → Option Nat} (h : MB b0 0 τ0 σ 24 u K R) (hK : K 23 = .inl 2) : ∃ τ, m_X2_init b0 fu (b0 + 23) (b0 + 1) (b0 + 10) (b0 + 18) (b0 + 20) σ = some ((), τ) ∧ MB b0 0 τ0 τ 24 u K (uR (uR (uR (uR R 23 0 (some (b0 + 1))) 23 1 (some (b0 + 10))) 23 2 (some (b0 + 18))) 23 3 (some (b0 + 20))) := X2_b (Q := fun x => ∃ τ, x = some ((), τ) ∧ MB b0 0 τ0 τ 24 u K (uR (uR (uR (uR R 23 0 (some (b0 + 1))) 23 1 (some (b0 + 10))) 23 2 (some (b0 + 18))) 23 3 (some (b0 + 20)))) h hK (fun τ m => ⟨τ, rfl, m⟩)
theorem X9_b {b0 fu u : Nat} {τ0 σ : tM} {K : Nat → Nat ⊕ (Nat × Nat)} {R : Nat → Nat → Option Nat} {Q : Option (Unit × tM) → Prop} (h : MB b0 0 τ0 σ 25 u K R) (hK : K 24 = .inl 9) (kk : ∀ τ, MB b0 0 τ0 τ 26 (u + 760) (uK K 25 (.inr (1, 760))) (uR (uR (nR R 25) 24 1 (some (b0 + 25))) 24 0 (some (b0 + 18))) → Q (some ((), τ))) : Q (m_X9_init b0 fu (b0 + 24) (b0 + 18) σ) := by
  unfold m_X9_init
  simp only [show ((760 : Int32)).toNatClampNeg = 760 from rfl]
  rw [ltb_def, h.1]
  have h1 := MB_N (k' := 26) (kd := .inr (1, 760)) (n := 760) h rfl
  generalize sN σ (b0 + 25) (.inr (1, 760)) 760 = ρ2 at h1 ⊢
  rw [MB_ck h1 (i := 24) (c := 9) (by omega) (by omega) hK]
  have g3 := MB_A (i := 24) (j := 1) (v := some (b0 + 25)) h1 (by omega) (by omega)
  generalize sA ρ2 (b0 + 24) 1 (some (b0 + 25)) = π4 at g3 ⊢
  have g5 := MB_A (i := 24) (j := 0) (v := some (b0 + 18)) g3 (by omega) (by omega)
  generalize sA π4 (b0 + 24) 0 (some (b0 + 18)) = π6 at g5 ⊢
  rw [grw_p rfl (by rw [h.1, g5.1]; omega) (by rw [h.2.1, g5.2.1]; omega)]
  exact kk _ g5
theorem X9_e {b0 fu u : Nat} {τ0 σ : tM} {K : Nat → Nat ⊕ (Nat × Nat)} {R : Nat → Nat → Option Nat} (h : MB b0 0 τ0 σ 25 u K R) (hK : K 24 = .inl 9) : ∃ τ, m_X9_init b0 fu (b0 + 24) (b0 + 18) σ = some ((), τ) ∧ MB b0 0 τ0 τ 26 (u + 760) (uK K 25 (.inr (1, 760))) (uR (uR (nR R 25) 24 1 (some (b0 + 25))) 24 0 (some (b0 + 18))) := X9_b (Q := fun x => ∃ τ, x = some ((), τ) ∧ MB b0 0 τ0 τ 26 (u + 760) (uK K 25 (.inr (1, 760))) (uR (uR (nR R 25) 24 1 (some (b0 + 25))) 24 0 (some (b0 + 18)))) h hK (fun τ m => ⟨τ, rfl, m⟩)
theorem X6_b {b0 fu u : Nat} {τ0 σ : tM} {K : Nat → Nat ⊕ (Nat × Nat)} {R : Nat → Nat → Option Nat} {Q : Option (Unit × tM) → Prop} (h : MB b0 0 τ0 σ 27 u K R) (hK : K 26 = .inl 6) (kk : ∀ τ, MB b0 0 τ0 τ 28 (u + 4000) (uK K 27 (.inr (1, 4000))) (uR (nR R 27) 26 0 (some (b0 + 27))) → Q (some ((), τ))) : Q (m_X6_init b0 fu (b0 + 26) σ) := by
  unfold m_X6_init
  simp only [show ((4000 : Int32)).toNatClampNeg = 4000 from rfl]
  rw [ltb_def, h.1]
  have h1 := MB_N (k' := 28) (kd := .inr (1, 4000)) (n := 4000) h rfl
  generalize sN σ (b0 + 27) (.inr (1, 4000)) 4000 = ρ2 at h1 ⊢
  rw [MB_ck h1 (i := 26) (c := 6) (by omega) (by omega) hK]
  have g3 := MB_A (i := 26) (j := 0) (v := some (b0 + 27)) h1 (by omega) (by omega)
  generalize sA ρ2 (b0 + 26) 0 (some (b0 + 27)) = π4 at g3 ⊢
  rw [grw_p rfl (by rw [h.1, g3.1]; omega) (by rw [h.2.1, g3.2.1]; omega)]
  exact kk _ g3
theorem X6_e {b0 fu u : Nat} {τ0 σ : tM} {K : Nat → Nat ⊕ (Nat × Nat)} {R : Nat → Nat → Option Nat} (h : MB b0 0 τ0 σ 27 u K R) (hK : K 26 = .inl 6) : ∃ τ, m_X6_init b0 fu (b0 + 26) σ = some ((), τ) ∧ MB b0 0 τ0 τ 28 (u + 4000) (uK K 27 (.inr (1, 4000))) (uR (nR R 27) 26 0 (some (b0 + 27))) := X6_b (Q := fun x => ∃ τ, x = some ((), τ) ∧ MB b0 0 τ0 τ 28 (u + 4000) (uK K 27 (.inr (1, 4000))) (uR (nR R 27) 26 0 (some (b0 + 27)))) h hK (fun τ m => ⟨τ, rfl, m⟩)
theorem X3p_b {b0 fu u : Nat} {τ0 σ : tM} {K : Nat → Nat ⊕ (Nat × Nat)} {R : Nat → Nat → Option Nat} {Q : Option (Unit × tM) → Prop} (h : MB b0 0 τ0 σ 29 u K R) (hK : K 28 = .inl 3) (kk : ∀ τ, MB b0 0 τ0 τ 30 (u + 120) (uK K 29 (.inr (1, 120))) (uR (nR R 29) 28 0 (some (b0 + 29))) → Q (some ((), τ))) : Q (m_X3_init b0 fu (b0 + 28) σ) := by
  unfold m_X3_init
  simp only [show ((120 : Int32)).toNatClampNeg = 120 from rfl]
  rw [ltb_def, h.1]
  have h1 := MB_N (k' := 30) (kd := .inr (1, 120)) (n := 120) h rfl
  generalize sN σ (b0 + 29) (.inr (1, 120)) 120 = ρ2 at h1 ⊢
  rw [MB_ck h1 (i := 28) (c := 3) (by omega) (by omega) hK]
  have g3 := MB_A (i := 28) (j := 0) (v := some (b0 + 29)) h1 (by omega) (by omega)
  generalize sA ρ2 (b0 + 28) 0 (some (b0 + 29)) = π4 at g3 ⊢
  rw [grw_p rfl (by rw [h.1, g3.1]; omega) (by rw [h.2.1, g3.2.1]; omega)]
  exact kk _ g3
theorem X3p_e {b0 fu u : Nat} {τ0 σ : tM} {K : Nat → Nat ⊕ (Nat × Nat)} {R : Nat → Nat → Option Nat} (h : MB b0 0 τ0 σ 29 u K R) (hK : K 28 = .inl 3) : ∃ τ, m_X3_init b0 fu (b0 + 28) σ = some ((), τ) ∧ MB b0 0 τ0 τ 30 (u + 120) (uK K 29 (.inr (1, 120))) (uR (nR R 29) 28 0 (some (b0 + 29))) := X3p_b (Q := fun x => ∃ τ, x = some ((), τ) ∧ MB b0 0 τ0 τ 30 (u + 120) (uK K 29 (.inr (1, 120))) (uR (nR R 29) 28 0 (some (b0 + 29)))) h hK (fun τ m => ⟨τ, rfl, m⟩)
theorem X3q_b {b0 fu u : Nat} {τ0 σ : tM} {K : Nat → Nat ⊕ (Nat × Nat)} {R : Nat → Nat → Option Nat} {Q : Option (Unit × tM) → Prop} (h : MB b0 0 τ0 σ 31 u K R) (hK : K 30 = .inl 3) (kk : ∀ τ, MB b0 0 τ0 τ 32 (u + 120) (uK K 31 (.inr (1, 120))) (uR (nR R 31) 30 0 (some (b0 + 31))) → Q (some ((), τ))) : Q (m_X3_init b0 fu (b0 + 30) σ) := by
  unfold m_X3_init
  simp only [show ((120 : Int32)).toNatClampNeg = 120 from rfl]
  rw [ltb_def, h.1]
  have h1 := MB_N (k' := 32) (kd := .inr (1, 120)) (n := 120) h rfl
  generalize sN σ (b0 + 31) (.inr (1, 120)) 120 = ρ2 at h1 ⊢
  rw [MB_ck h1 (i := 30) (c := 3) (by omega) (by omega) hK]
  have g3 := MB_A (i := 30) (j := 0) (v := some (b0 + 31)) h1 (by omega) (by omega)
  generalize sA ρ2 (b0 + 30) 0 (some (b0 + 31)) = π4 at g3 ⊢
  rw [grw_p rfl (by rw [h.1, g3.1]; omega) (by rw [h.2.1, g3.2.1]; omega)]
  exact kk _ g3
theorem X3q_e {b0 fu u : Nat} {τ0 σ : tM} {K : Nat → Nat ⊕ (Nat × Nat)} {R : Nat → Nat → Option Nat} (h : MB b0 0 τ0 σ 31 u K R) (hK : K 30 = .inl 3) : ∃ τ, m_X3_init b0 fu (b0 + 30) σ = some ((), τ) ∧ MB b0 0 τ0 τ 32 (u + 120) (uK K 31 (.inr (1, 120))) (uR (nR R 31) 30 0 (some (b0 + 31))) := X3q_b (Q := fun x => ∃ τ, x = some ((), τ) ∧ MB b0 0 τ0 τ 32 (u + 120) (uK K 31 (.inr (1, 120))) (uR (nR R 31) 30 0 (some (b0 + 31)))) h hK (fun τ m => ⟨τ, rfl, m⟩)
def Kc : Nat → Nat ⊕ (Nat × Nat) := (uK (uK (uK (uK (uK (uK (uK (uK (uK (uK (uK (uK (uK (uK (uK (uK (uK (uK (uK (uK (uK (uK (uK (uK (uK (uK (uK (uK (uK (uK (uK (uK (uK (fun _ => .inl 0) 0 (.inl 10)) 1 (.inl 0)) 2 (.inr (0, 6130))) 3 (.inr (4, 6130))) 4 (.inr (0, 6130))) 5 (.inr (0, 6130))) 6 (.inr (0, 256))) 7 (.inr (0, 256))) 8 (.inr (4, 256))) 9 (.inr (2, 256))) 10 (.inl 5)) 11 (.inr (3, 65536))) 12 (.inr (0, 2034))) 13 (.inr (0, 2034))) 14 (.inr (1, 2034))) 15 (.inr (1, 2034))) 16 (.inr (1, 2034))) 17 (.inr (1, 2034))) 18 (.inl 8)) 19 (.inr (1, 64))) 20 (.inl 1)) 21 (.inr (4, 2034))) 22 (.inr (1, 2034))) 23 (.inl 2)) 24 (.inl 9)) 25 (.inr (1, 760))) 26 (.inl 6)) 27 (.inr (1, 4000))) 28 (.inl 3)) 29 (.inr (1, 120))) 30 (.inl 3)) 31 (.inr (1, 120))) 32 (.inr (0, 16)))
def Rc (b0 : Nat) : Nat → Nat → Option Nat := (uR (nR (uR (uR (nR (nR (uR (uR (nR (nR (uR (uR (nR (nR (uR (uR (uR (nR (nR (uR (uR (uR (uR (uR (nR (uR (uR (uR (uR (uR (nR (uR (nR (nR (uR (uR (uR (uR (nR (nR (uR (uR (nR (uR (nR (uR (nR (uR (nR (uR (nR (uR (nR (uR (nR (nR (uR (uR (nR (uR (nR (uR (nR (uR (nR (uR (nR (uR (nR (uR (nR (uR (nR (nR (nR (fun _ _ => none) 0) 1) 2) 1 0 (some (b0 + 2))) 3) 1 1 (some (b0 + 3))) 4) 1 2 (some (b0 + 4))) 5) 1 3 (some (b0 + 5))) 6) 1 4 (some (b0 + 6))) 7) 1 5 (some (b0 + 7))) 8) 1 6 (some (b0 + 8))) 9) 1 7 (some (b0 + 9))) 0 0 (some (b0 + 1))) 10) 11) 10 0 (some (b0 + 11))) 12) 10 1 (some (b0 + 12))) 13) 10 2 (some (b0 + 13))) 14) 10 3 (some (b0 + 14))) 15) 10 4 (some (b0 + 15))) 16) 10 5 (some (b0 + 16))) 17) 10 6 (some (b0 + 17))) 0 1 (some (b0 + 10))) 18) 19) 18 2 (some (b0 + 19))) 18 0 (some (b0 + 10))) 18 1 (some (b0 + 11))) 0 2 (some (b0 + 18))) 20) 21) 20 3 (some (b0 + 21))) 22) 20 4 (some (b0 + 22))) 20 0 (some (b0 + 1))) 20 1 (some (b0 + 10))) 20 2 (some (b0 + 18))) 0 3 (some (b0 + 20))) 23) 23 0 (some (b0 + 1))) 23 1 (some (b0 + 10))) 23 2 (some (b0 + 18))) 23 3 (some (b0 + 20))) 0 4 (some (b0 + 23))) 24) 25) 24 1 (some (b0 + 25))) 24 0 (some (b0 + 18))) 0 5 (some (b0 + 24))) 26) 27) 26 0 (some (b0 + 27))) 0 6 (some (b0 + 26))) 28) 29) 28 0 (some (b0 + 29))) 0 7 (some (b0 + 28))) 30) 31) 30 0 (some (b0 + 31))) 0 8 (some (b0 + 30))) 32) 0 9 (some (b0 + 32)))
theorem X10_b {b0 fu u : Nat} {τ0 σ : tM} {Q : Option (Unit × tM) → Prop} (h : MB b0 0 τ0 σ 1 u (uK (fun _ => .inl 0) 0 (.inl 10)) (nR (fun _ _ => none) 0)) (kk : ∀ π, MB b0 0 τ0 π 33 (u + 112506) Kc (Rc b0) → Q (grw σ (cll (m_X10_begin b0 fu (b0 + 0) 40 16 π) (fun _ ρ => some ((), ρ))))) : Q (m_X10_init b0 fu (b0 + 0) σ) := by
  unfold m_X10_init
  simp only [show ((16 : Int32)).toNatClampNeg = 16 from rfl]
  rw [ltb_def, h.1]
  have hm1 := MB_N (k' := 2) (kd := .inl 0) (n := 15) h rfl
  generalize sN σ (b0 + 1) (.inl 0) 15 = ρm2 at hm1 ⊢
  obtain ⟨τ3, e3, m3⟩ := X0_e (fu := fu) hm1 rfl
  rw [e3, cll_some]
  rw [MB_ck m3 (i := 0) (c := 10) (by omega) (by omega) rfl]
  have gm4 := MB_A (i := 0) (j := 0) (v := some (b0 + 1)) m3 (by omega) (by omega)
  generalize sA τ3 (b0 + 0) 0 (some (b0 + 1)) = πm5 at gm4 ⊢
  rw [ltb_def, m3.1]
  have hm6 := MB_N (k' := 11) (kd := .inl 5) (n := 17) gm4 rfl
  generalize sN πm5 (b0 + 10) (.inl 5) 17 = ρm7 at hm6 ⊢
  obtain ⟨τ8, e8, m8⟩ := X5_e (fu := fu) hm6 rfl
  rw [e8, cll_some]
  rw [MB_ck m8 (i := 0) (c := 10) (by omega) (by omega) rfl]
  have gm9 := MB_A (i := 0) (j := 1) (v := some (b0 + 10)) m8 (by omega) (by omega)
  generalize sA τ8 (b0 + 0) 1 (some (b0 + 10)) = πm10 at gm9 ⊢
  rw [ltb_def, m8.1]
  have hm11 := MB_N (k' := 19) (kd := .inl 8) (n := 3) gm9 rfl
  generalize sN πm10 (b0 + 18) (.inl 8) 3 = ρm12 at hm11 ⊢
  rw [MB_ck hm11 (i := 0) (c := 10) (by omega) (by omega) rfl]
  rw [osm_p (show tA ρm12 (b0 + 0) 1 = some (b0 + 10) from (MB_rf hm11 (by omega) (by omega)).trans rfl)]
  obtain ⟨τ13, e13, m13⟩ := X8_e (fu := fu) hm11 rfl rfl rfl
  rw [e13, cll_some]
  rw [MB_ck m13 (i := 0) (c := 10) (by omega) (by omega) rfl]
  have gm14 := MB_A (i := 0) (j := 2) (v := some (b0 + 18)) m13 (by omega) (by omega)
  generalize sA τ13 (b0 + 0) 2 (some (b0 + 18)) = πm15 at gm14 ⊢
  rw [ltb_def, m13.1]
  have hm16 := MB_N (k' := 21) (kd := .inl 1) (n := 18) gm14 rfl
  generalize sN πm15 (b0 + 20) (.inl 1) 18 = ρm17 at hm16 ⊢
  rw [MB_ck hm16 (i := 0) (c := 10) (by omega) (by omega) rfl]
  rw [osm_p (show tA ρm17 (b0 + 0) 0 = some (b0 + 1) from (MB_rf hm16 (by omega) (by omega)).trans rfl), osm_p (show tA ρm17 (b0 + 0) 1 = some (b0 + 10) from (MB_rf hm16 (by omega) (by omega)).trans rfl), osm_p (show tA ρm17 (b0 + 0) 2 = some (b0 + 18) from (MB_rf hm16 (by omega) (by omega)).trans rfl)]
  obtain ⟨τ18, e18, m18⟩ := X1_e (fu := fu) hm16 rfl
  rw [e18, cll_some]
  rw [MB_ck m18 (i := 0) (c := 10) (by omega) (by omega) rfl]
  have gm19 := MB_A (i := 0) (j := 3) (v := some (b0 + 20)) m18 (by omega) (by omega)
  generalize sA τ18 (b0 + 0) 3 (some (b0 + 20)) = πm20 at gm19 ⊢
  rw [ltb_def, m18.1]
  have hm21 := MB_N (k' := 24) (kd := .inl 2) (n := 4) gm19 rfl
  generalize sN πm20 (b0 + 23) (.inl 2) 4 = ρm22 at hm21 ⊢
  rw [MB_ck hm21 (i := 0) (c := 10) (by omega) (by omega) rfl]
  rw [osm_p (show tA ρm22 (b0 + 0) 0 = some (b0 + 1) from (MB_rf hm21 (by omega) (by omega)).trans rfl), osm_p (show tA ρm22 (b0 + 0) 1 = some (b0 + 10) from (MB_rf hm21 (by omega) (by omega)).trans rfl), osm_p (show tA ρm22 (b0 + 0) 2 = some (b0 + 18) from (MB_rf hm21 (by omega) (by omega)).trans rfl), osm_p (show tA ρm22 (b0 + 0) 3 = some (b0 + 20) from (MB_rf hm21 (by omega) (by omega)).trans rfl)]
  obtain ⟨τ23, e23, m23⟩ := X2_e (fu := fu) hm21 rfl
  rw [e23, cll_some]
  rw [MB_ck m23 (i := 0) (c := 10) (by omega) (by omega) rfl]
  have gm24 := MB_A (i := 0) (j := 4) (v := some (b0 + 23)) m23 (by omega) (by omega)
  generalize sA τ23 (b0 + 0) 4 (some (b0 + 23)) = πm25 at gm24 ⊢
  rw [ltb_def, m23.1]
  have hm26 := MB_N (k' := 25) (kd := .inl 9) (n := 5) gm24 rfl
  generalize sN πm25 (b0 + 24) (.inl 9) 5 = ρm27 at hm26 ⊢
  rw [MB_ck hm26 (i := 0) (c := 10) (by omega) (by omega) rfl]
  rw [osm_p (show tA ρm27 (b0 + 0) 2 = some (b0 + 18) from (MB_rf hm26 (by omega) (by omega)).trans rfl)]
  obtain ⟨τ28, e28, m28⟩ := X9_e (fu := fu) hm26 rfl
  rw [e28, cll_some]
  rw [MB_ck m28 (i := 0) (c := 10) (by omega) (by omega) rfl]
  have gm29 := MB_A (i := 0) (j := 5) (v := some (b0 + 24)) m28 (by omega) (by omega)
  generalize sA τ28 (b0 + 0) 5 (some (b0 + 24)) = πm30 at gm29 ⊢
  rw [ltb_def, m28.1]
  have hm31 := MB_N (k' := 27) (kd := .inl 6) (n := 2) gm29 rfl
  generalize sN πm30 (b0 + 26) (.inl 6) 2 = ρm32 at hm31 ⊢
  obtain ⟨τ33, e33, m33⟩ := X6_e (fu := fu) hm31 rfl
  rw [e33, cll_some]
  rw [MB_ck m33 (i := 0) (c := 10) (by omega) (by omega) rfl]
  have gm34 := MB_A (i := 0) (j := 6) (v := some (b0 + 26)) m33 (by omega) (by omega)
  generalize sA τ33 (b0 + 0) 6 (some (b0 + 26)) = πm35 at gm34 ⊢
  rw [ltb_def, m33.1]
  have hm36 := MB_N (k' := 29) (kd := .inl 3) (n := 5) gm34 rfl
  generalize sN πm35 (b0 + 28) (.inl 3) 5 = ρm37 at hm36 ⊢
  obtain ⟨τ38, e38, m38⟩ := X3p_e (fu := fu) hm36 rfl
  rw [e38, cll_some]
  rw [MB_ck m38 (i := 0) (c := 10) (by omega) (by omega) rfl]
  have gm39 := MB_A (i := 0) (j := 7) (v := some (b0 + 28)) m38 (by omega) (by omega)
  generalize sA τ38 (b0 + 0) 7 (some (b0 + 28)) = πm40 at gm39 ⊢
  rw [ltb_def, m38.1]
  have hm41 := MB_N (k' := 31) (kd := .inl 3) (n := 5) gm39 rfl
  generalize sN πm40 (b0 + 30) (.inl 3) 5 = ρm42 at hm41 ⊢
  obtain ⟨τ43, e43, m43⟩ := X3q_e (fu := fu) hm41 rfl
  rw [e43, cll_some]
  rw [MB_ck m43 (i := 0) (c := 10) (by omega) (by omega) rfl]
  have gm44 := MB_A (i := 0) (j := 8) (v := some (b0 + 30)) m43 (by omega) (by omega)
  generalize sA τ43 (b0 + 0) 8 (some (b0 + 30)) = πm45 at gm44 ⊢
  rw [ltb_def, m43.1]
  have hm46 := MB_N (k' := 33) (kd := .inr (0, 16)) (n := 16) gm44 rfl
  generalize sN πm45 (b0 + 32) (.inr (0, 16)) 16 = ρm47 at hm46 ⊢
  rw [MB_ck hm46 (i := 0) (c := 10) (by omega) (by omega) rfl]
  have gm48 := MB_A (i := 0) (j := 9) (v := some (b0 + 32)) hm46 (by omega) (by omega)
  generalize sA ρm47 (b0 + 0) 9 (some (b0 + 32)) = πm49 at gm48 ⊢
  refine kk _ ?_
  have e : u + 112506 = ((((((((((((((((((((((((((((((((u + 15) + 6130) + 6130) + 6130) + 6130) + 256) + 256) + 256) + 256) + 17) + 65536) + 2034) + 2034) + 2034) + 2034) + 2034) + 2034) + 3) + 64) + 18) + 2034) + 2034) + 4) + 5) + 760) + 2) + 4000) + 5) + 120) + 5) + 120) + 16) := by omega
  rw [e]
  exact gm48
end MBS
