/-! ===== PURE: the reference before there is the law's last cell (written by wip/gen/gen_cy.py): format ===== -/
/-- the reference's frame, where nothing is made -/
def FRy (b0 : Nat) (σ τ : tM) : Prop := FR b0 σ τ ∧ tn τ = tn σ ∧ tu τ = tu σ ∧ tk τ = tk σ ∧ tA τ = tA σ
theorem FRy_good (b0 : Nat) : goodF (FRy b0) := ⟨fun σ => ⟨(FR_good b0).1 σ, rfl, rfl, rfl, rfl⟩, fun σ τ ρ h k => ⟨(FR_good b0).2.1 σ τ ρ h.1 k.1, k.2.1.trans h.2.1, k.2.2.1.trans h.2.2.1, k.2.2.2.1.trans h.2.2.2.1, k.2.2.2.2.trans h.2.2.2.2⟩, fun σ τ h => (FR_good b0).2.2 σ τ h.1⟩
theorem FRy_sI {b0 : Nat} {σ : tM} {a j : Nat} {v : Int32} (h : refO b0 σ a) : FRy b0 σ (sI σ a j v) := ⟨FR_sI h, rfl, rfl, rfl, rfl⟩
def LayRy (b0 : Nat) (σ : tM) : Prop := 73 ≤ tn σ ∧ tk σ (b0 + 35) = .inl 11 ∧ tk σ (b0 + 36) = .inr (0, 554080) ∧ tk σ (b0 + 39) = .inr (0, 6200) ∧ tk σ (b0 + 40) = .inr (0, 6200) ∧ tk σ (b0 + 41) = .inr (1, 512000) ∧ tk σ (b0 + 42) = .inr (0, 256) ∧ tk σ (b0 + 43) = .inr (0, 256) ∧ tk σ (b0 + 44) = .inr (0, 256) ∧ tk σ (b0 + 45) = .inr (1, 65536) ∧ tk σ (b0 + 46) = .inr (0, 6200) ∧ tk σ (b0 + 47) = .inr (1, 512000) ∧ tk σ (b0 + 48) = .inr (2, 2000) ∧ tk σ (b0 + 49) = .inr (0, 2000) ∧ tk σ (b0 + 50) = .inr (2, 64) ∧ tk σ (b0 + 51) = .inr (2, 6200) ∧ tk σ (b0 + 52) = .inr (2, 6200) ∧ tk σ (b0 + 61) = .inr (5, 2) ∧ tk σ (b0 + 62) = .inr (1, 120) ∧ tk σ (b0 + 63) = .inr (1, 120) ∧ tk σ (b0 + 64) = .inr (0, 2) ∧ tk σ (b0 + 65) = .inr (1, 2048) ∧ tk σ (b0 + 66) = .inr (1, 2048) ∧ tk σ (b0 + 67) = .inr (1, 120) ∧ tk σ (b0 + 68) = .inr (0, 6200) ∧ tk σ (b0 + 69) = .inr (0, 6200) ∧ tk σ (b0 + 70) = .inr (1, 4000) ∧ tk σ (b0 + 71) = .inr (0, 16) ∧ tk σ (b0 + 72) = .inr (2, 2000) ∧ tA σ (b0 + 35) 1 = some (b0 + 36) ∧ tA σ (b0 + 35) 8 = some (b0 + 39) ∧ tA σ (b0 + 35) 9 = some (b0 + 40) ∧ tA σ (b0 + 35) 10 = some (b0 + 41) ∧ tA σ (b0 + 35) 11 = some (b0 + 42) ∧ tA σ (b0 + 35) 12 = some (b0 + 43) ∧ tA σ (b0 + 35) 13 = some (b0 + 44) ∧ tA σ (b0 + 35) 14 = some (b0 + 45) ∧ tA σ (b0 + 35) 17 = some (b0 + 46) ∧ tA σ (b0 + 35) 22 = some (b0 + 47) ∧ tA σ (b0 + 35) 23 = some (b0 + 48) ∧ tA σ (b0 + 35) 24 = some (b0 + 49) ∧ tA σ (b0 + 35) 25 = some (b0 + 50) ∧ tA σ (b0 + 35) 26 = some (b0 + 51) ∧ tA σ (b0 + 35) 27 = some (b0 + 52) ∧ tA σ (b0 + 35) 47 = some (b0 + 61) ∧ tA σ (b0 + 35) 48 = some (b0 + 64) ∧ tA σ (b0 + 35) 52 = some (b0 + 67) ∧ tA σ (b0 + 35) 54 = some (b0 + 68) ∧ tA σ (b0 + 35) 55 = some (b0 + 69) ∧ tA σ (b0 + 35) 56 = some (b0 + 70) ∧ tA σ (b0 + 35) 58 = some (b0 + 71) ∧ tA σ (b0 + 35) 59 = some (b0 + 72) ∧ tA σ (b0 + 61) 0 = some (b0 + 62) ∧ tA σ (b0 + 61) 1 = some (b0 + 63)
theorem ckR_35y {β : Type} {b0 : Nat} {σ : tM} {k : Option β} (h : LayRy b0 σ) : ckO b0 σ (b0 + 35) 11 k = k := ckO_p h.2.1 ⟨Nat.le_add_right _ _, by have := h.1; omega⟩
theorem ckR_36y {β : Type} {b0 : Nat} {σ : tM} {k : Nat → Option β} (h : LayRy b0 σ) : ckR b0 σ (b0 + 36) 0 k = k 554080 := ckR_p h.2.2.1 ⟨Nat.le_add_right _ _, by have := h.1; omega⟩
theorem ckR_39y {β : Type} {b0 : Nat} {σ : tM} {k : Nat → Option β} (h : LayRy b0 σ) : ckR b0 σ (b0 + 39) 0 k = k 6200 := ckR_p h.2.2.2.1 ⟨Nat.le_add_right _ _, by have := h.1; omega⟩
theorem ckR_46y {β : Type} {b0 : Nat} {σ : tM} {k : Nat → Option β} (h : LayRy b0 σ) : ckR b0 σ (b0 + 46) 0 k = k 6200 := ckR_p h.2.2.2.2.2.2.2.2.2.2.1 ⟨Nat.le_add_right _ _, by have := h.1; omega⟩
theorem ckR_48y {β : Type} {b0 : Nat} {σ : tM} {k : Nat → Option β} (h : LayRy b0 σ) : ckR b0 σ (b0 + 48) 2 k = k 2000 := ckR_p h.2.2.2.2.2.2.2.2.2.2.2.2.1 ⟨Nat.le_add_right _ _, by have := h.1; omega⟩
theorem ckR_49y {β : Type} {b0 : Nat} {σ : tM} {k : Nat → Option β} (h : LayRy b0 σ) : ckR b0 σ (b0 + 49) 0 k = k 2000 := ckR_p h.2.2.2.2.2.2.2.2.2.2.2.2.2.1 ⟨Nat.le_add_right _ _, by have := h.1; omega⟩
theorem ckR_50y {β : Type} {b0 : Nat} {σ : tM} {k : Nat → Option β} (h : LayRy b0 σ) : ckR b0 σ (b0 + 50) 2 k = k 64 := ckR_p h.2.2.2.2.2.2.2.2.2.2.2.2.2.2.1 ⟨Nat.le_add_right _ _, by have := h.1; omega⟩
theorem ckR_51y {β : Type} {b0 : Nat} {σ : tM} {k : Nat → Option β} (h : LayRy b0 σ) : ckR b0 σ (b0 + 51) 2 k = k 6200 := ckR_p h.2.2.2.2.2.2.2.2.2.2.2.2.2.2.2.1 ⟨Nat.le_add_right _ _, by have := h.1; omega⟩
theorem ckR_52y {β : Type} {b0 : Nat} {σ : tM} {k : Nat → Option β} (h : LayRy b0 σ) : ckR b0 σ (b0 + 52) 2 k = k 6200 := ckR_p h.2.2.2.2.2.2.2.2.2.2.2.2.2.2.2.2.1 ⟨Nat.le_add_right _ _, by have := h.1; omega⟩
theorem ckR_64y {β : Type} {b0 : Nat} {σ : tM} {k : Nat → Option β} (h : LayRy b0 σ) : ckR b0 σ (b0 + 64) 0 k = k 2 := ckR_p h.2.2.2.2.2.2.2.2.2.2.2.2.2.2.2.2.2.2.2.2.1 ⟨Nat.le_add_right _ _, by have := h.1; omega⟩
theorem ckR_71y {β : Type} {b0 : Nat} {σ : tM} {k : Nat → Option β} (h : LayRy b0 σ) : ckR b0 σ (b0 + 71) 0 k = k 16 := ckR_p h.2.2.2.2.2.2.2.2.2.2.2.2.2.2.2.2.2.2.2.2.2.2.2.2.2.2.2.1 ⟨Nat.le_add_right _ _, by have := h.1; omega⟩
theorem rfR_35_1y {b0 : Nat} {σ : tM} (h : LayRy b0 σ) : tA σ (b0 + 35) 1 = some (b0 + 36) := h.2.2.2.2.2.2.2.2.2.2.2.2.2.2.2.2.2.2.2.2.2.2.2.2.2.2.2.2.2.1
theorem rfR_35_8y {b0 : Nat} {σ : tM} (h : LayRy b0 σ) : tA σ (b0 + 35) 8 = some (b0 + 39) := h.2.2.2.2.2.2.2.2.2.2.2.2.2.2.2.2.2.2.2.2.2.2.2.2.2.2.2.2.2.2.1
theorem rfR_35_17y {b0 : Nat} {σ : tM} (h : LayRy b0 σ) : tA σ (b0 + 35) 17 = some (b0 + 46) := h.2.2.2.2.2.2.2.2.2.2.2.2.2.2.2.2.2.2.2.2.2.2.2.2.2.2.2.2.2.2.2.2.2.2.2.2.2.1
theorem rfR_35_23y {b0 : Nat} {σ : tM} (h : LayRy b0 σ) : tA σ (b0 + 35) 23 = some (b0 + 48) := h.2.2.2.2.2.2.2.2.2.2.2.2.2.2.2.2.2.2.2.2.2.2.2.2.2.2.2.2.2.2.2.2.2.2.2.2.2.2.2.1
theorem rfR_35_24y {b0 : Nat} {σ : tM} (h : LayRy b0 σ) : tA σ (b0 + 35) 24 = some (b0 + 49) := h.2.2.2.2.2.2.2.2.2.2.2.2.2.2.2.2.2.2.2.2.2.2.2.2.2.2.2.2.2.2.2.2.2.2.2.2.2.2.2.2.1
theorem rfR_35_25y {b0 : Nat} {σ : tM} (h : LayRy b0 σ) : tA σ (b0 + 35) 25 = some (b0 + 50) := h.2.2.2.2.2.2.2.2.2.2.2.2.2.2.2.2.2.2.2.2.2.2.2.2.2.2.2.2.2.2.2.2.2.2.2.2.2.2.2.2.2.1
theorem rfR_35_26y {b0 : Nat} {σ : tM} (h : LayRy b0 σ) : tA σ (b0 + 35) 26 = some (b0 + 51) := h.2.2.2.2.2.2.2.2.2.2.2.2.2.2.2.2.2.2.2.2.2.2.2.2.2.2.2.2.2.2.2.2.2.2.2.2.2.2.2.2.2.2.1
theorem rfR_35_27y {b0 : Nat} {σ : tM} (h : LayRy b0 σ) : tA σ (b0 + 35) 27 = some (b0 + 52) := h.2.2.2.2.2.2.2.2.2.2.2.2.2.2.2.2.2.2.2.2.2.2.2.2.2.2.2.2.2.2.2.2.2.2.2.2.2.2.2.2.2.2.2.1
theorem rfR_35_48y {b0 : Nat} {σ : tM} (h : LayRy b0 σ) : tA σ (b0 + 35) 48 = some (b0 + 64) := h.2.2.2.2.2.2.2.2.2.2.2.2.2.2.2.2.2.2.2.2.2.2.2.2.2.2.2.2.2.2.2.2.2.2.2.2.2.2.2.2.2.2.2.2.2.1
theorem rfR_35_58y {b0 : Nat} {σ : tM} (h : LayRy b0 σ) : tA σ (b0 + 35) 58 = some (b0 + 71) := h.2.2.2.2.2.2.2.2.2.2.2.2.2.2.2.2.2.2.2.2.2.2.2.2.2.2.2.2.2.2.2.2.2.2.2.2.2.2.2.2.2.2.2.2.2.2.2.2.2.2.1
def RAy (b0 : Nat) (σ : tM) (A : Nat → Nat → Nat) : Prop := LayRy b0 σ ∧ (∀ o j, isA o j = true → tI σ (b0 + o) j = decA o j (A o j)) ∧ okA A
section CY1
variable {b0 : Nat} {σ τ : tM} {A : Nat → Nat → Nat}
theorem RAy.lay (h : RAy b0 σ A) : LayRy b0 σ := h.1
end CY1
section CY2
variable {b0 : Nat} {σ τ : tM} {A : Nat → Nat → Nat}
theorem rf_6y (h : RAy b0 σ A) : tI σ (b0 + 35) 6 = nI (A 35 6) := h.2.1 35 6 rfl
end CY2
section CY3
variable {b0 : Nat} {σ τ : tM} {A : Nat → Nat → Nat}
theorem rf_7y (h : RAy b0 σ A) : tI σ (b0 + 35) 7 = nI (A 35 7) := h.2.1 35 7 rfl
end CY3
section CY4
variable {b0 : Nat} {σ τ : tM} {A : Nat → Nat → Nat}
theorem RA_upy {o j x : Nat} {v : Int32} (h : RAy b0 σ A) (hv : v = decA o j x) (hx : x < bndA o) : RAy b0 (sI σ (b0 + o) j v) (up2 A o j x) := by
  refine ⟨h.1, fun p q e => ?_, okA_up h.2.2 hx⟩
  rw [rd_II]
  by_cases hp : p = o
  · subst hp
    rw [if_pos rfl]
    by_cases hq : q = j
    · subst hq
      rw [if_pos rfl, up2_s, hv]
    · rw [if_neg hq, up2_j hq, h.2.1 p q e]
  · rw [if_neg (by omega), up2_o hp, h.2.1 p q e]
end CY4
section CY5
variable {b0 : Nat} {σ τ : tM} {A : Nat → Nat → Nat}
theorem RA_othy {o j : Nat} {v : Int32} (h : RAy b0 σ A) (ho : isA o j = false) : RAy b0 (sI σ (b0 + o) j v) A := by
  refine ⟨h.1, fun p q e => ?_, h.2.2⟩
  rw [rd_II, ← h.2.1 p q e]
  split
  · split
    · rename_i h1 h2
      have : p = o := by omega
      subst this; subst h2
      rw [ho] at e
      cases e
    · rfl
  · rfl
end CY5
section CY6
variable {b0 fu : Nat} {σ τ : tM} {A : Nat → Nat → Nat}
theorem blocks_eqy (h : RAy b0 σ A) : m_X12_blocks b0 fu (b0 + 35) σ = some (nI (34 + A 35 6 + A 35 7), σ) := by
  have L := h.lay
  simp (disch := first | assumption | omega) only [m_X12_blocks, lits, nI_add, pk_mul, ofi, ltb_def, cll_some, grw_same, osm_some, ckZ_0, ckZ_1, ckR_35y L, rf_6y h, rf_7y h]
end CY6
def RMy (b0 : Nat) (J : tJ) (σ : tM) (A : Nat → Nat → Nat) (N : Nat) : Prop := RAy b0 σ A ∧ okT A ∧ ∃ ad ln U un, RD0 b0 σ ad ln (mix U J.1) (cntD un J.2.1 J.2.2.1) un J.2.1 J.2.2.1 ∧ (ln 2 = ln 3 ∧ ∀ f, 37 ≤ f → f ≤ 43 → ln f = 64) ∧ ln 2 ≤ 131072 ∧ un + 2 * usd A ≤ N ∧ (∀ i, i < un → U 2 i < 554080 ∧ U 3 i < bT (U 2 i)) ∧ ∀ p s, J.2.2.2 p s → p ≤ un ∧ und (U 2) (U 3) p un (A 36) = s
section CY7
variable {b0 fu : Nat} {σ τ : tM} {A B : Nat → Nat → Nat} {ad ln c : Nat → Nat} {un nr nl ns N : Nat} {J : tJ}
theorem RMy.ra (h : RMy b0 J σ A N) : RAy b0 σ A := h.1
end CY7
section CY8
variable {b0 fu : Nat} {σ τ : tM} {A B : Nat → Nat → Nat} {ad ln c : Nat → Nat} {un nr nl ns N : Nat} {J : tJ}
theorem RM_fixy (h : RMy b0 J σ A N) {o j x : Nat} {v : Int32} (ho : isA o j = true) (h4 : o ≠ 36) (hv : v = decA o j x) (hx : x < bndA o) : RMy b0 J (sI σ (b0 + o) j v) (up2 A o j x) N := by
  obtain ⟨hr, hT, ad, ln, U, un, hd, hl, hb, hu, hm⟩ := h
  refine ⟨RA_upy hr hv hx, okT_oth hT h4, ad, ln, U, un, RD0_fix hd (isA_o ho) (fun e => ?_), hl, hb, by rw [usd_obj h4]; exact hu, ?_⟩
  · subst e
    refine ⟨fun q => ?_, fun q => ?_, fun q => ?_⟩ <;> (subst q; cases ho)
  · rw [up2_rown (fun e => h4 e.symm)]; exact hm
end CY8
section CY9
variable {b0 fu : Nat} {σ τ : tM} {A : Nat → Nat → Nat} {N K : Nat} {J : tJ}
theorem eg33y : ∀ m k f σ A, RMy b0 J σ A N → k + m = 64 → m < f → wp (FRy b0) σ (L_X12_emptyGroup_33 b0 fu f (b0 + 35) (nI k) σ) (fun _ τ => RMy b0 J τ (fl 50 0 k m A) N) := by
  intro m
  induction m with
  | zero =>
    intro k f σ A h hk hf
    obtain ⟨f, rfl⟩ : ∃ q, f = q + 1 := ⟨f - 1, by omega⟩
    unfold L_X12_emptyGroup_33
    rw [ltb_def, show (64 : Int32) = nI 64 from rfl, if_l (by omega) (by omega), if_pos (show 64 ≤ k by omega)]
    exact wp_ret ((FRy_good b0).1 _) h
  | succ m ih =>
    intro k f σ A h hk hf
    obtain ⟨f, rfl⟩ : ∃ q, f = q + 1 := ⟨f - 1, by omega⟩
    have L := h.ra.lay
    unfold L_X12_emptyGroup_33
    rw [ltb_def, show (64 : Int32) = nI 64 from rfl, if_l (by omega) (by omega), if_neg (show ¬ 64 ≤ k by omega), ckR_35y L, osm_p (rfR_35_25y L), ckR_50y L, ckI_n (by omega) (by omega), ltb_def, ofi, nI_cl (by omega)]
    exact wp_to (FRy_good b0) (ih (k + 1) f _ _ (RM_fixy (x := 0) h (o := 50) rfl (by decide) rfl (by decide)) (by omega) (by omega)) (FRy_sI (refO_f 50 (by omega) (by omega)))
end CY9
section CY10
variable {b0 fu : Nat} {σ τ : tM} {A : Nat → Nat → Nat} {N K : Nat} {J : tJ}
theorem eg2y (hu : 10000 ≤ fu) : ∀ m k f σ A, RMy b0 J σ A N → k + m = 6200 → m < f → wp (FRy b0) σ (L_X12_emptyGroup_2 b0 fu f (b0 + 35) (nI k) σ) (fun _ τ => RMy b0 J τ (fl 50 0 0 64 (fl 52 0 k m (fl 51 0 k m A))) N) := by
  intro m
  induction m with
  | zero =>
    intro k f σ A h hk hf
    obtain ⟨f, rfl⟩ : ∃ q, f = q + 1 := ⟨f - 1, by omega⟩
    have L := h.ra.lay
    unfold L_X12_emptyGroup_2
    rw [ltb_def, ckR_35y L, osm_p (rfR_35_26y L), ckR_51y L, if_l (by omega) (by omega), if_pos (show 6200 ≤ k by omega)]
    exact eg33y 64 0 fu σ A h (by omega) (by omega)
  | succ m ih =>
    intro k f σ A h hk hf
    obtain ⟨f, rfl⟩ : ∃ q, f = q + 1 := ⟨f - 1, by omega⟩
    have L := h.ra.lay
    unfold L_X12_emptyGroup_2
    simp only [rd_AI, rd_AL, rd_AIr, rd_ALr, rd_IL, rd_LI, rd_IA, rd_LA, rd_LIr, rd_ILr, ckR_sI, ckO_sI, ckR_sL, ckO_sL, ckR_sA, ckO_sA, ckR_sIr, ckO_sIr, ckR_sLr, ckO_sLr, ltb_def]
    rw [ckR_35y L, osm_p (rfR_35_26y L), ckR_51y L, if_l (by omega) (by omega), if_neg (show ¬ 6200 ≤ k by omega), osm_p (rfR_35_26y L), ckR_51y L, ckI_n (by omega) (by omega), osm_p (rfR_35_27y L), ckR_52y L, ckI_n (by omega) (by omega), ofi, nI_cl (by omega)]
    have h1 : RMy b0 J (sI σ (b0 + 51) k (vp_nar .boolean (0 : Int32))) (up2 A 51 k 0) N := RM_fixy (x := 0) h (o := 51) rfl (by decide) rfl (by decide)
    have h2 : RMy b0 J (sI (sI σ (b0 + 51) k (vp_nar .boolean (0 : Int32))) (b0 + 52) k (vp_nar .boolean (0 : Int32))) (up2 (up2 A 51 k 0) 52 k 0) N := RM_fixy (x := 0) h1 (o := 52) rfl (by decide) rfl (by decide)
    have := ih (k + 1) f _ _ h2 (by omega) (by omega)
    rw [fl2] at this
    exact wp_to (FRy_good b0) this ((FRy_good b0).2.1 _ _ _ (FRy_sI (refO_f 51 (by omega) (by omega))) (FRy_sI (refO_f 52 (by omega) (by omega))))
end CY10
section CY11
variable {b0 fu : Nat} {σ τ : tM} {A : Nat → Nat → Nat} {N K : Nat} {J : tJ}
theorem emptyGroup_wpy (h : RMy b0 J σ A N) (hu : 10000 ≤ fu) : wp (FRy b0) σ (m_X12_emptyGroup b0 fu (b0 + 35) σ) (fun _ τ => RMy b0 J τ (egA A) N) := wp_grw (FRy_good b0) (eg2y hu 6200 0 fu σ A h (by omega) (by omega))
end CY11
def RLy (b0 : Nat) (σ : tM) (A B U : tS) (c : Nat → Nat) (un ns nl : Nat) : Prop := RAy b0 σ A ∧ ∃ ad ln, RD0 b0 σ ad ln (mix U B) c un ns nl ∧ (ln 2 = ln 3 ∧ ∀ f, 37 ≤ f → f ≤ 43 → ln f = 64) ∧ ln 2 ≤ 131072
section CY12
variable {b0 fu : Nat} {σ τ : tM} {A B U : tS} {c : Nat → Nat} {N K un nl ns : Nat} {J : tJ}
theorem RM_RLy : RMy b0 J σ A N ↔ okT A ∧ ∃ U un, RLy b0 σ A J.1 U (cntD un J.2.1 J.2.2.1) un J.2.1 J.2.2.1 ∧ un + 2 * usd A ≤ N ∧ (∀ i, i < un → U 2 i < 554080 ∧ U 3 i < bT (U 2 i)) ∧ ∀ p s, J.2.2.2 p s → p ≤ un ∧ und (U 2) (U 3) p un (A 36) = s := by
  constructor
  · rintro ⟨hr, hT, ad, ln, U, un, hd, hl, hb, hu, hm⟩
    exact ⟨hT, U, un, ⟨hr, ad, ln, hd, hl, hb⟩, hu, hm⟩
  · rintro ⟨hT, U, un, ⟨hr, ad, ln, hd, hl, hb⟩, hu, hm⟩
    exact ⟨hr, hT, ad, ln, U, un, hd, hl, hb, hu, hm⟩
end CY12
section CY13
variable {b0 fu : Nat} {σ τ : tM} {A B U : tS} {c : Nat → Nat} {N K un nl ns : Nat} {J : tJ}
theorem RL_fixy (h : RLy b0 σ A B U c un ns nl) {o j x : Nat} {v : Int32} (ho : isA o j = true) (hv : v = decA o j x) (hx : x < bndA o) : RLy b0 (sI σ (b0 + o) j v) (up2 A o j x) B U c un ns nl := by
  obtain ⟨hr, ad, ln, hd, hl1, hb⟩ := h
  refine ⟨RA_upy hr hv hx, ad, ln, RD0_fix hd (isA_o ho) (fun e => ?_), hl1, hb⟩
  subst e
  refine ⟨fun q => ?_, fun q => ?_, fun q => ?_⟩ <;> (subst q; cases ho)
end CY13
section CY14
variable {b0 fu : Nat} {σ τ : tM} {A B U : tS} {c : Nat → Nat} {N K un nl ns : Nat} {J : tJ}
theorem RL_nsy (h : RLy b0 σ A B U c un ns nl) (m : Nat) : RLy b0 (sI σ (b0 + 35) 36 (nI m)) A B U c un m nl := by
  obtain ⟨hr, ad, ln, hd, hl1, hb⟩ := h
  obtain ⟨h1, h2, ⟨s4, s36, s45⟩, h4⟩ := id hd
  refine ⟨RA_othy hr rfl, ad, ln, ⟨fun f hf => ?_, h2, ⟨?_, rd_IIs _ _ _ _, ?_⟩, h4⟩, hl1, hb⟩
  · obtain ⟨a1, a2, a3, a4, a5, a6, a7, a8⟩ := h1 f hf
    exact ⟨a1, a2, a3, a4, a5, a6, a7, fun i hi => by rw [rd_IIa (hd.ne hf (Or.inr rfl))]; exact a8 i hi⟩
  · rw [rd_IIj (by decide)]; exact s4
  · rw [rd_IIj (by decide)]; exact s45
end CY14
section CY15
variable {b0 fu : Nat} {σ τ : tM} {A B U : tS} {c : Nat → Nat} {N K un nl ns : Nat} {J : tJ}
theorem RL_nly (h : RLy b0 σ A B U c un ns nl) (m : Nat) : RLy b0 (sI σ (b0 + 35) 45 (nI m)) A B U c un ns m := by
  obtain ⟨hr, ad, ln, hd, hl1, hb⟩ := h
  obtain ⟨h1, h2, ⟨s4, s36, s45⟩, h4⟩ := id hd
  refine ⟨RA_othy hr rfl, ad, ln, ⟨fun f hf => ?_, h2, ⟨?_, ?_, rd_IIs _ _ _ _⟩, h4⟩, hl1, hb⟩
  · obtain ⟨a1, a2, a3, a4, a5, a6, a7, a8⟩ := h1 f hf
    exact ⟨a1, a2, a3, a4, a5, a6, a7, fun i hi => by rw [rd_IIa (hd.ne hf (Or.inr rfl))]; exact a8 i hi⟩
  · rw [rd_IIj (by decide)]; exact s4
  · rw [rd_IIj (by decide)]; exact s36
end CY15
section CY16
variable {b0 fu : Nat} {σ τ : tM} {A B U : tS} {c : Nat → Nat} {N K un nl ns : Nat} {J : tJ}
theorem RL_uny (h : RLy b0 σ A B U c un ns nl) (m : Nat) : RLy b0 (sI σ (b0 + 35) 4 (nI m)) A B U c m ns nl := by
  obtain ⟨hr, ad, ln, hd, hl1, hb⟩ := h
  obtain ⟨h1, h2, ⟨s4, s36, s45⟩, h4⟩ := id hd
  refine ⟨RA_othy hr rfl, ad, ln, ⟨fun f hf => ?_, h2, ⟨rd_IIs _ _ _ _, ?_, ?_⟩, h4⟩, hl1, hb⟩
  · obtain ⟨a1, a2, a3, a4, a5, a6, a7, a8⟩ := h1 f hf
    exact ⟨a1, a2, a3, a4, a5, a6, a7, fun i hi => by rw [rd_IIa (hd.ne hf (Or.inr rfl))]; exact a8 i hi⟩
  · rw [rd_IIj (by decide)]; exact s36
  · rw [rd_IIj (by decide)]; exact s45
end CY16
section CY17
variable {b0 fu : Nat} {σ τ : tM} {A B U : tS} {c : Nat → Nat} {N K un nl ns : Nat} {J : tJ}
theorem RL_ley {c2 : Nat → Nat} (h : RLy b0 σ A B U c un ns nl) (e : ∀ f, isD f = true → c2 f ≤ c f) : RLy b0 σ A B U c2 un ns nl := by
  obtain ⟨hr, ad, ln, ⟨h1, h2, h3, h4⟩, hl1, hb⟩ := h
  refine ⟨hr, ad, ln, ⟨fun f hf => ?_, h2, h3, h4⟩, hl1, hb⟩
  obtain ⟨a1, a2, a3, a4, a5, a6, a7, a8⟩ := h1 f hf
  have := e f hf
  exact ⟨a1, a2, a3, a4, by omega, a6, a7, fun i hi => a8 i (by omega)⟩
end CY17
section CY18
variable {b0 fu : Nat} {σ τ : tM} {A B U : tS} {N N' K K' : Nat} {J : tJ} {P : Int32 → tM → Prop}
theorem RM_boty (h : RMy b0 J σ A N) : RMy b0 (botJ J) σ A N := by
  obtain ⟨hT, U, un, hR, hNu, hU, hm⟩ := RM_RLy.mp h
  exact RM_RLy.mpr ⟨hT, U, un, hR, hNu, hU, fun p s q => q.elim⟩
end CY18
section CY19
variable {b0 fu : Nat} {σ τ : tM} {A B U : tS} {N N' K K' : Nat} {J : tJ} {P : Int32 → tM → Prop}
theorem RM_memy (h : RMy b0 (botJ J) σ A N) {j x : Nat} (hx : x < bT j) (hu : usd (up2 A 36 j x) ≤ usd A) : RMy b0 (botJ J) (sI σ (b0 + 36) j (nI x)) (up2 A 36 j x) N := by
  obtain ⟨hT, U, un, hR, hNu, hU, hm⟩ := RM_RLy.mp h
  have b := bT_le j
  exact RM_RLy.mpr ⟨okT_up hT hx, U, un, RL_fixy (o := 36) hR rfl rfl (by show _ < 2147483648; omega), by omega, hU, fun p s q => q.elim⟩
end CY19
section CY20
variable {b0 fu : Nat} {σ τ : tM} {A B U : tS} {N N' K K' : Nat} {J : tJ} {P : Int32 → tM → Prop}
theorem RM_un0y (h : RMy b0 (botJ J) σ A N) : RMy b0 (J.1, J.2.1, J.2.2.1, fun p q => p = 0 ∧ q = A 36) (sI σ (b0 + 35) 4 0) A N := by
  obtain ⟨hT, U, un, hR, hNu, hU, hm⟩ := RM_RLy.mp h
  refine RM_RLy.mpr ⟨hT, U, 0, RL_ley (RL_uny hR 0) (fun f hf => ?_), by omega, fun i hi => by omega, ?_⟩
  · show cntD 0 J.2.1 J.2.2.1 f ≤ cntD un J.2.1 J.2.2.1 f
    unfold cntD
    split
    · exact Nat.zero_le _
    · exact Nat.le_refl _
  · rintro p q ⟨rfl, rfl⟩
    exact ⟨Nat.le_refl _, rfl⟩
end CY20
section CY21
variable {b0 fu : Nat} {σ τ : tM} {A B U : tS} {N N' K K' : Nat} {J : tJ} {P : Int32 → tM → Prop}
theorem RM_ns0y {X : tS} {nr nl : Nat} {Kp : Nat → (Nat → Nat) → Prop} (h : RMy b0 (X, nr, nl, Kp) σ A N) : RMy b0 (X, 0, nl, Kp) (sI σ (b0 + 35) 36 0) A N := by
  obtain ⟨hT, U, un, hR, hNu, hU, hm⟩ := RM_RLy.mp h
  refine RM_RLy.mpr ⟨hT, U, un, RL_ley (RL_nsy hR 0) (fun f hf => ?_), hNu, hU, hm⟩
  show cntD un 0 nl f ≤ cntD un nr nl f
  unfold cntD
  split
  · exact Nat.le_refl _
  · split
    · exact Nat.zero_le _
    · exact Nat.le_refl _
end CY21
section CY22
variable {b0 fu : Nat} {σ τ : tM} {A B U : tS} {N N' K K' : Nat} {J : tJ} {P : Int32 → tM → Prop}
theorem RM_nl0y {X : tS} {nr nl : Nat} {Kp : Nat → (Nat → Nat) → Prop} (h : RMy b0 (X, nr, nl, Kp) σ A N) : RMy b0 (X, nr, 0, Kp) (sI σ (b0 + 35) 45 0) A N := by
  obtain ⟨hT, U, un, hR, hNu, hU, hm⟩ := RM_RLy.mp h
  refine RM_RLy.mpr ⟨hT, U, un, RL_ley (RL_nly hR 0) (fun f hf => ?_), hNu, hU, hm⟩
  show cntD un nr 0 f ≤ cntD un nr nl f
  unfold cntD
  split
  · exact Nat.le_refl _
  · split
    · exact Nat.le_refl _
    · exact Nat.zero_le _
end CY22
section CY23
variable {b0 fu : Nat} {σ τ : tM} {A B U : tS} {N N' K K' : Nat} {J : tJ} {P : Int32 → tM → Prop}
theorem fo46y : ∀ m k f σ A, RMy b0 (botJ J) σ A N → k + m = 554080 → m < f → (∀ τ, RMy b0 (botJ J) τ (fl 36 0 k m A) N → wp (FRy b0) τ (L_X12_format_70 b0 fu fu (b0 + 35) 0 τ) P) → wp (FRy b0) σ (L_X12_format_46 b0 fu f (b0 + 35) (nI k) σ) P := by
  intro m
  induction m with
  | zero =>
    intro k f σ A h hk hf hq
    obtain ⟨f, rfl⟩ : ∃ q, f = q + 1 := ⟨f - 1, by omega⟩
    have L := h.ra.lay
    unfold L_X12_format_46
    rw [ltb_def, ckR_35y L, osm_p (rfR_35_1y L), ckR_36y L, if_l (by omega) (by omega), if_pos (by omega)]
    exact hq σ h
  | succ m ih =>
    intro k f σ A h hk hf hq
    obtain ⟨f, rfl⟩ : ∃ q, f = q + 1 := ⟨f - 1, by omega⟩
    have L := h.ra.lay
    unfold L_X12_format_46
    rw [ltb_def, ckR_35y L, osm_p (rfR_35_1y L), ckR_36y L, if_l (by omega) (by omega), if_neg (by omega), osm_p (rfR_35_1y L), ckR_36y L, ckI_n (by omega) (by omega), nI_cl (by omega), ltb_def, ofi]
    refine wp_from (FRy_good b0) (FRy_sI (v := 0) (j := k) (refO_f 36 (by omega) (by omega))) ?_
    exact ih (k + 1) f _ (up2 A 36 k 0) (RM_memy h (bT_pos k) usd_le0) (by omega) (by omega) hq
end CY23
section CY24
variable {b0 fu : Nat} {σ τ : tM} {A B U : tS} {N N' K K' : Nat} {J : tJ} {P : Int32 → tM → Prop}
theorem fo80y {r : Nat} (hr : r < 2000) {rc : Nat → Int32 → tM → Option (Int32 × tM)} : ∀ m k f σ A, RMy b0 (botJ J) σ A N → k + m = 8 → m < f → (∀ τ, RMy b0 (botJ J) τ (e8 r m k A) N → wp (FRy b0) τ (rc (b0 + 35) (nI (r + 1)) τ) P) → wp (FRy b0) σ (L_X12_format_80 b0 fu rc f (b0 + 35) (nI r) (nI k) σ) P := by
  intro m
  induction m with
  | zero =>
    intro k f σ A h hk hf hq
    obtain ⟨f, rfl⟩ : ∃ q, f = q + 1 := ⟨f - 1, by omega⟩
    unfold L_X12_format_80
    rw [ltb_def, show (8 : Int32) = nI 8 from rfl, if_l (by omega) (by omega), if_pos (by omega), ltb_def, ofi]
    exact hq σ h
  | succ m ih =>
    intro k f σ A h hk hf hq
    obtain ⟨f, rfl⟩ : ∃ q, f = q + 1 := ⟨f - 1, by omega⟩
    have L := h.ra.lay
    unfold L_X12_format_80
    rw [ltb_def, show (8 : Int32) = nI 8 from rfl, if_l (by omega) (by omega), if_neg (by omega), ckR_35y L, osm_p (rfR_35_1y L), show (34 : Int32) + nI k * (30 : Int32) = nI (34 + k * 30) from by rw [show nI k * (30 : Int32) = nI (k * 30) from pk_mul k 30]; exact nI_add 34 _, room_eq, cll_some, ckR_36y L, ckI_n (by omega) (by omega), nI_cl (by omega), ltb_def, ofi]
    refine wp_from (FRy_good b0) (FRy_sI (v := 64) (j := 6080 + r * 274 + (34 + k * 30)) (refO_f 36 (by omega) (by omega))) ?_
    refine ih (k + 1) f _ (up2 A 36 (6080 + r * 274 + (34 + k * 30)) 64) (RM_memy h ?_ (Nat.le_of_eq (usd_oth (fun q => by omega)))) (by omega) (by omega) hq
    rw [bT_r _ (by omega)]
    unfold bR
    repeat (first | omega | split)
end CY24
section CY25
variable {b0 fu : Nat} {σ τ : tM} {A B U : tS} {N N' K K' : Nat} {J : tJ} {P : Int32 → tM → Prop}
theorem fo70y : ∀ m r f σ A, RMy b0 (botJ J) σ A N → r + m = 2000 → m < f → (∀ τ, RMy b0 (J.1, J.2.1, J.2.2.1, fun p q => p = 0 ∧ q = up2 (eR m r A) 36 0 2 36) τ (up2 (eR m r A) 36 0 2) N → wp (FRy b0) τ (L_X12_format_132 b0 fu fu (b0 + 35) 0 τ) P) → 3000 ≤ fu → wp (FRy b0) σ (L_X12_format_70 b0 fu f (b0 + 35) (nI r) σ) P := by
  intro m
  induction m with
  | zero =>
    intro r f σ A h hk hf hq hu
    obtain ⟨f, rfl⟩ : ∃ q, f = q + 1 := ⟨f - 1, by omega⟩
    have L := h.ra.lay
    unfold L_X12_format_70
    rw [ltb_def, show (2000 : Int32) = nI 2000 from rfl, if_l (by omega) (by omega), if_pos (by omega), ckR_35y L, osm_p (rfR_35_1y L), ckR_36y L, show (0 : Int32) = nI 0 from rfl, ckI_n (by omega) (by omega), nI_cl (by omega)]
    have h2 : RMy b0 (botJ J) (sI σ (b0 + 36) 0 (nI 2)) (up2 A 36 0 2) N := RM_memy h (by decide) (Nat.le_of_eq (usd_oth (fun q => by omega)))
    refine wp_from (FRy_good b0) ((FRy_good b0).2.1 _ _ _ (FRy_sI (v := nI 2) (j := 0) (refO_f 36 (by omega) (by omega))) (FRy_sI (v := nI 0) (j := 4) (refO_f 35 (by omega) (by omega)))) ?_
    exact hq _ (RM_un0y h2)
  | succ m ih =>
    intro r f σ A h hk hf hq hu
    obtain ⟨f, rfl⟩ : ∃ q, f = q + 1 := ⟨f - 1, by omega⟩
    unfold L_X12_format_70
    rw [ltb_def, show (2000 : Int32) = nI 2000 from rfl, if_l (by omega) (by omega), if_neg (by omega)]
    exact fo80y (r := r) (by omega) 8 0 fu σ A h (by omega) (by omega) (fun τ q => ih (r + 1) f τ _ q (by omega) (by omega) hq hu)
end CY25
section CY26
variable {b0 fu : Nat} {σ τ : tM} {A B U : tS} {N N' K K' : Nat} {J : tJ} {P : Int32 → tM → Prop}
theorem fo132y {J : tJ} : ∀ m k f σ A, RMy b0 J σ A N → k + m = 6200 → m < f → (∀ τ, RMy b0 J τ (fo3 (fl 39 0 k m A)) N → wp (FRy b0) τ (J_X12_format_184 b0 fu (b0 + 35) τ) P) → wp (FRy b0) σ (L_X12_format_132 b0 fu f (b0 + 35) (nI k) σ) P := by
  intro m
  induction m with
  | zero =>
    intro k f σ A h hk hf hq
    obtain ⟨f, rfl⟩ : ∃ q, f = q + 1 := ⟨f - 1, by omega⟩
    have L := h.ra.lay
    unfold L_X12_format_132
    rw [ltb_def, ckR_35y L, osm_p (rfR_35_8y L), ckR_39y L, if_l (by omega) (by omega), if_pos (by omega)]
    have h1 := RM_fixy (o := 35) (j := 15) (x := 0) (v := 0) h rfl (by decide) rfl (by decide)
    have h2 := RM_fixy (o := 35) (j := 16) (x := 0) (v := 0) h1 rfl (by decide) rfl (by decide)
    have h3 := RM_fixy (o := 35) (j := 18) (x := 1) (v := 1) h2 rfl (by decide) rfl (by decide)
    have h4 := RM_fixy (o := 35) (j := 19) (x := 0) (v := -1) h3 rfl (by decide) (show (-1 : Int32) = nI 0 - 1 by decide) (by decide)
    have h5 := RM_fixy (o := 35) (j := 20) (x := 0) (v := 0) h4 rfl (by decide) rfl (by decide)
    have h6 := RM_fixy (o := 35) (j := 21) (x := 0) (v := 0) h5 rfl (by decide) rfl (by decide)
    have f35 : ∀ (σ : tM) j v, FRy b0 σ (sI σ (b0 + 35) j v) := fun σ j v => FRy_sI (refO_f 35 (by omega) (by omega))
    refine wp_from (FRy_good b0) ?_ (hq _ h6)
    exact (FRy_good b0).2.1 _ _ _ (f35 _ _ _) ((FRy_good b0).2.1 _ _ _ (f35 _ _ _) ((FRy_good b0).2.1 _ _ _ (f35 _ _ _) ((FRy_good b0).2.1 _ _ _ (f35 _ _ _) ((FRy_good b0).2.1 _ _ _ (f35 _ _ _) (f35 _ _ _)))))
  | succ m ih =>
    intro k f σ A h hk hf hq
    obtain ⟨f, rfl⟩ : ∃ q, f = q + 1 := ⟨f - 1, by omega⟩
    have L := h.ra.lay
    unfold L_X12_format_132
    rw [ltb_def, ckR_35y L, osm_p (rfR_35_8y L), ckR_39y L, if_l (by omega) (by omega), if_neg (by omega), osm_p (rfR_35_8y L), ckR_39y L, ckI_n (by omega) (by omega), nI_cl (by omega), ltb_def, ofi]
    refine wp_from (FRy_good b0) (FRy_sI (v := 0) (j := k) (refO_f 39 (by omega) (by omega))) ?_
    exact ih (k + 1) f _ (up2 A 39 k 0) (RM_fixy (o := 39) (x := 0) h rfl (by decide) rfl (by decide)) (by omega) (by omega) hq
end CY26
section CY27
variable {b0 fu : Nat} {σ τ : tM} {A B U : tS} {N N' K K' : Nat} {J : tJ} {P : Int32 → tM → Prop}
theorem fo293y {J : tJ} : ∀ m k f σ A, RMy b0 J σ A N → k + m = 16 → m < f → wp (FRy b0) σ (L_X12_format_293 b0 fu f (b0 + 35) (nI k) σ) (fun v τ => v = nI (34 + A 35 6 + A 35 7) ∧ RMy b0 J τ (fo6 (fl 71 0 k m A)) N) := by
  intro m
  induction m with
  | zero =>
    intro k f σ A h hk hf
    obtain ⟨f, rfl⟩ : ∃ q, f = q + 1 := ⟨f - 1, by omega⟩
    have L := h.ra.lay
    unfold L_X12_format_293
    rw [ltb_def, show (16 : Int32) = nI 16 from rfl, if_l (by omega) (by omega), if_pos (by omega), ckR_35y L, osm_p (rfR_35_48y L), ckR_64y L, show (0 : Int32) = nI 0 from rfl, show (1 : Int32) = nI 1 from rfl, ckI_n (by omega) (by omega), nI_cl (by omega)]
    have h1 : RMy b0 J (sI σ (b0 + 64) 0 (nI 0)) (up2 A 64 0 0) N := RM_fixy (o := 64) (j := 0) (x := 0) h rfl (by decide) rfl (by decide)
    have L1 := h1.ra.lay
    rw [osm_p (rfR_35_48y L1), ckR_64y L1, ckI_n (by omega) (by omega), nI_cl (by omega)]
    have h2 : RMy b0 J (sI (sI σ (b0 + 64) 0 (nI 0)) (b0 + 64) 1 (nI 0)) (up2 (up2 A 64 0 0) 64 1 0) N := RM_fixy (o := 64) (j := 1) (x := 0) h1 rfl (by decide) rfl (by decide)
    have h3 : RMy b0 J (sI (sI (sI σ (b0 + 64) 0 (nI 0)) (b0 + 64) 1 (nI 0)) (b0 + 35) 57 (nI 0)) (fo6 A) N := RM_fixy (o := 35) (j := 57) (x := 0) h2 rfl (by decide) rfl (by decide)
    rw [blocks_eqy h3.ra, cll_some]
    have e6 : fo6 A 35 6 = A 35 6 := by unfold fo6; rw [up2_j (by decide), up2_o (by decide), up2_o (by decide)]
    have e7 : fo6 A 35 7 = A 35 7 := by unfold fo6; rw [up2_j (by decide), up2_o (by decide), up2_o (by decide)]
    refine wp_ret ?_ ⟨by rw [e6, e7], h3⟩
    exact (FRy_good b0).2.1 _ _ _ (FRy_sI (refO_f 64 (by omega) (by omega))) ((FRy_good b0).2.1 _ _ _ (FRy_sI (refO_f 64 (by omega) (by omega))) (FRy_sI (refO_f 35 (by omega) (by omega))))
  | succ m ih =>
    intro k f σ A h hk hf
    obtain ⟨f, rfl⟩ : ∃ q, f = q + 1 := ⟨f - 1, by omega⟩
    have L := h.ra.lay
    unfold L_X12_format_293
    rw [ltb_def, show (16 : Int32) = nI 16 from rfl, if_l (by omega) (by omega), if_neg (by omega), ckR_35y L, osm_p (rfR_35_58y L), ckR_71y L, ckI_n (by omega) (by omega), nI_cl (by omega), ltb_def, ofi]
    refine wp_from (FRy_good b0) (FRy_sI (v := -1) (j := k) (refO_f 71 (by omega) (by omega))) ?_
    have := ih (k + 1) f _ (up2 A 71 k 0) (RM_fixy (o := 71) (x := 0) (v := -1) h rfl (by decide) (show (-1 : Int32) = nI 0 - 1 by decide) (by decide)) (by omega) (by omega)
    rw [up2_o (by decide), up2_o (by decide)] at this
    exact this
end CY27
section CY28
variable {b0 fu : Nat} {σ τ : tM} {A B U : tS} {N N' K K' : Nat} {J : tJ} {P : Int32 → tM → Prop}
theorem fo264y {J : tJ} (hu : 3000 ≤ fu) : ∀ m k f σ A, RMy b0 J σ A N → k + m = 2000 → m < f → wp (FRy b0) σ (L_X12_format_264 b0 fu f (b0 + 35) (nI k) σ) (fun v τ => v = nI (34 + A 35 6 + A 35 7) ∧ RMy b0 J τ (fo6 (fl 71 0 0 16 (fo5 m k A))) N) := by
  intro m
  induction m with
  | zero =>
    intro k f σ A h hk hf
    obtain ⟨f, rfl⟩ : ∃ q, f = q + 1 := ⟨f - 1, by omega⟩
    unfold L_X12_format_264
    rw [ltb_def, show (2000 : Int32) = nI 2000 from rfl, if_l (by omega) (by omega), if_pos (by omega)]
    exact fo293y 16 0 fu σ A h (by omega) (by omega)
  | succ m ih =>
    intro k f σ A h hk hf
    obtain ⟨f, rfl⟩ : ∃ q, f = q + 1 := ⟨f - 1, by omega⟩
    have L := h.ra.lay
    unfold L_X12_format_264
    rw [ltb_def, show (2000 : Int32) = nI 2000 from rfl, if_l (by omega) (by omega), if_neg (by omega), ckR_35y L, osm_p (rfR_35_23y L), ckR_48y L, ckI_n (by omega) (by omega), nI_cl (by omega)]
    have h1 : RMy b0 J (sI σ (b0 + 48) k (vp_nar .boolean 0)) (up2 A 48 k 0) N := RM_fixy (o := 48) (x := 0) h rfl (by decide) vb0 (by decide)
    have L1 := h1.ra.lay
    rw [osm_p (rfR_35_24y L1), ckR_49y L1, ckI_n (by omega) (by omega), ltb_def, ofi]
    refine wp_from (FRy_good b0) ((FRy_good b0).2.1 _ _ _ (FRy_sI (v := vp_nar .boolean 0) (j := k) (refO_f 48 (by omega) (by omega))) (FRy_sI (v := 0) (j := k) (refO_f 49 (by omega) (by omega)))) ?_
    have := ih (k + 1) f _ (up2 (up2 A 48 k 0) 49 k 0) (RM_fixy (o := 49) (x := 0) (v := 0) h1 rfl (by decide) rfl (by decide)) (by omega) (by omega)
    rw [up2_o (by decide), up2_o (by decide), up2_o (by decide), up2_o (by decide)] at this
    exact this
end CY28
section CY29
variable {b0 fu : Nat} {σ τ : tM} {A B U : tS} {N N' K K' : Nat} {J : tJ} {P : Int32 → tM → Prop}
theorem fo240y {J : tJ} (hu : 3000 ≤ fu) : ∀ m k f σ A, RMy b0 J σ A N → k + m = 6200 → m < f → wp (FRy b0) σ (L_X12_format_240 b0 fu f (b0 + 35) (nI k) σ) (fun v τ => v = nI (34 + A 35 6 + A 35 7) ∧ RMy b0 J τ (fo6 (fl 71 0 0 16 (fo5 2000 0 (fl 46 0 k m A)))) N) := by
  intro m
  induction m with
  | zero =>
    intro k f σ A h hk hf
    obtain ⟨f, rfl⟩ : ∃ q, f = q + 1 := ⟨f - 1, by omega⟩
    have L := h.ra.lay
    unfold L_X12_format_240
    rw [ltb_def, ckR_35y L, osm_p (rfR_35_17y L), ckR_46y L, if_l (by omega) (by omega), if_pos (by omega)]
    exact fo264y hu 2000 0 fu σ A h (by omega) (by omega)
  | succ m ih =>
    intro k f σ A h hk hf
    obtain ⟨f, rfl⟩ : ∃ q, f = q + 1 := ⟨f - 1, by omega⟩
    have L := h.ra.lay
    unfold L_X12_format_240
    rw [ltb_def, ckR_35y L, osm_p (rfR_35_17y L), ckR_46y L, if_l (by omega) (by omega), if_neg (by omega), osm_p (rfR_35_17y L), ckR_46y L, ckI_n (by omega) (by omega), nI_cl (by omega), ltb_def, ofi]
    refine wp_from (FRy_good b0) (FRy_sI (v := 0) (j := k) (refO_f 46 (by omega) (by omega))) ?_
    have := ih (k + 1) f _ (up2 A 46 k 0) (RM_fixy (o := 46) (x := 0) (v := 0) h rfl (by decide) rfl (by decide)) (by omega) (by omega)
    rw [up2_o (by decide), up2_o (by decide)] at this
    exact this
end CY29
section CY30
variable {b0 fu : Nat} {σ τ : tM} {A B U : tS} {N N' K K' : Nat} {J : tJ} {P : Int32 → tM → Prop}
theorem format_bodyy {l r : Nat} (h : RMy b0 J σ A N) (hl : l < 2147483648) (hr : r < 2147483648) (hu : 1200000 ≤ fu) : wp (FRy b0) σ (L_X12_format_46 b0 fu fu (b0 + 35) 0 (sI (sI (sI σ (b0 + 35) 0 0) (b0 + 35) 6 (nI l)) (b0 + 35) 7 (nI r))) (fun v τ => v = nI (34 + l + r) ∧ RMy b0 (foJ J (foA l r A)) τ (foA l r A) N) := by
  have h1 := RM_fixy (o := 35) (j := 0) (x := 0) (v := 0) (RM_boty h) rfl (by decide) rfl (by decide)
  have h2 := RM_fixy (o := 35) (j := 6) (x := l) (v := nI l) h1 rfl (by decide) rfl hl
  have h3 := RM_fixy (o := 35) (j := 7) (x := r) (v := nI r) h2 rfl (by decide) rfl hr
  have f35 : ∀ (σ : tM) j v, FRy b0 σ (sI σ (b0 + 35) j v) := fun σ j v => FRy_sI (refO_f 35 (by omega) (by omega))
  have f3 : FRy b0 σ (sI (sI (sI σ (b0 + 35) 0 0) (b0 + 35) 6 (nI l)) (b0 + 35) 7 (nI r)) := (FRy_good b0).2.1 _ _ _ (f35 _ _ _) ((FRy_good b0).2.1 _ _ _ (f35 _ _ _) (f35 _ _ _))
  refine wp_from (FRy_good b0) f3 ?_
  refine fo46y 554080 0 fu _ _ h3 (by omega) (by omega) (fun τ q => ?_)
  refine fo70y 2000 0 fu τ _ q (by omega) (by omega) (fun τ q => ?_) (by omega)
  have q : RMy b0 (J.1, J.2.1, J.2.2.1, fun p s => p = 0 ∧ s = fo2 l r A 36) τ (fo2 l r A) N := q
  have g6 : fo2 l r A 35 6 = l ∧ fo2 l r A 35 7 = r := by
    have k8 : ∀ (r m k : Nat) (A : tS), e8 r m k A 35 = A 35 := by
      intro r m
      induction m with
      | zero => intro k A; rfl
      | succ m ih =>
        intro k A
        unfold e8
        rw [ih, up2_rown (by decide)]
    have kR : ∀ (m r : Nat) (A : tS), eR m r A 35 = A 35 := by
      intro m
      induction m with
      | zero => intro r A; rfl
      | succ m ih =>
        intro r A
        unfold eR
        rw [ih, k8]
    unfold fo2
    rw [up2_rown (by decide), kR, fl_row (by decide)]
    unfold fo1
    exact ⟨by rw [up2_j (by decide), up2_s], up2_s _ _ _ _⟩
  have e36 : (foA l r A) 36 = fo2 l r A 36 := fo_36 (fo2 l r A)
  unfold foJ
  rw [e36]
  have eA : foA l r A = fo6 (fl 71 0 0 16 (fo5 2000 0 (fl 46 0 0 6200 (egA (fo4 (fo3 (fl 39 0 0 6200 (fo2 l r A)))))))) := rfl
  rw [eA]
  clear eA e36
  generalize fo2 l r A = A at q g6 ⊢
  refine fo132y 6200 0 fu τ _ q (by omega) (by omega) (fun τ q => ?_)
  have q6 : fo3 (fl 39 0 0 6200 A) 35 6 = l ∧ fo3 (fl 39 0 0 6200 A) 35 7 = r := by
    unfold fo3
    constructor
    · rw [up2_j (by decide), up2_j (by decide), up2_j (by decide), up2_j (by decide), up2_j (by decide), up2_j (by decide), fl_row (by decide)]
      exact g6.1
    · rw [up2_j (by decide), up2_j (by decide), up2_j (by decide), up2_j (by decide), up2_j (by decide), up2_j (by decide), fl_row (by decide)]
      exact g6.2
  have e36 : fo3 (fl 39 0 0 6200 A) 36 = A 36 := by
    unfold fo3
    rw [up2_rown (by decide), up2_rown (by decide), up2_rown (by decide), up2_rown (by decide), up2_rown (by decide), up2_rown (by decide), fl_row (by decide)]
  generalize hX : fo3 (fl 39 0 0 6200 A) = X at q q6 e36 ⊢
  unfold J_X12_format_184 J_X12_format_234
  rw [ckR_35y q.ra.lay, ltb_def]
  have j1 := RM_fixy (o := 35) (j := 35) (x := 0) (v := 0) q rfl (by decide) rfl (by decide)
  have j2 := RM_nl0y (RM_ns0y j1)
  have j3 := RM_fixy (o := 35) (j := 28) (x := 0) (v := 0) j2 rfl (by decide) rfl (by decide)
  have j4 := RM_fixy (o := 35) (j := 29) (x := 0) (v := 0) j3 rfl (by decide) rfl (by decide)
  have j5 := RM_fixy (o := 35) (j := 30) (x := 0) (v := 0) j4 rfl (by decide) rfl (by decide)
  have j6 := RM_fixy (o := 35) (j := 31) (x := 0) (v := 0) j5 rfl (by decide) rfl (by decide)
  have j7 := RM_fixy (o := 35) (j := 32) (x := 0) (v := 0) j6 rfl (by decide) rfl (by decide)
  have j8 := RM_fixy (o := 35) (j := 33) (x := 0) (v := 0) j7 rfl (by decide) rfl (by decide)
  have j9 := RM_fixy (o := 35) (j := 46) (x := 0) (v := 0) j8 rfl (by decide) rfl (by decide)
  rw [ckR_35y j9.ra.lay]
  have ff : FRy b0 τ (sI (sI (sI (sI (sI (sI (sI (sI (sI (sI τ (b0 + 35) 35 0) (b0 + 35) 36 0) (b0 + 35) 45 0) (b0 + 35) 28 0) (b0 + 35) 29 0) (b0 + 35) 30 0) (b0 + 35) 31 0) (b0 + 35) 32 0) (b0 + 35) 33 0) (b0 + 35) 46 0) := (FRy_good b0).2.1 _ _ _ (f35 _ _ _) ((FRy_good b0).2.1 _ _ _ (f35 _ _ _) ((FRy_good b0).2.1 _ _ _ (f35 _ _ _) ((FRy_good b0).2.1 _ _ _ (f35 _ _ _) ((FRy_good b0).2.1 _ _ _ (f35 _ _ _) ((FRy_good b0).2.1 _ _ _ (f35 _ _ _) ((FRy_good b0).2.1 _ _ _ (f35 _ _ _) ((FRy_good b0).2.1 _ _ _ (f35 _ _ _) ((FRy_good b0).2.1 _ _ _ (f35 _ _ _) (f35 _ _ _)))))))))
  refine wp_from (FRy_good b0) ff (wp_bind (FRy_good b0) (emptyGroup_wpy (fu := fu) j9 (by omega)) ?_)
  intro _ ρ q2
  have q6' : ∀ j, j = 6 ∨ j = 7 → egA (fo4 X) 35 j = X 35 j := by
    intro j hj
    unfold egA fo4
    rw [fl_row (by decide), fl_row (by decide), fl_row (by decide), up2_j (by omega), up2_j (by omega), up2_j (by omega), up2_j (by omega), up2_j (by omega), up2_j (by omega), up2_j (by omega), up2_j (by omega)]
  have := fo240y (fu := fu) (by omega) 6200 0 fu ρ _ q2 (by omega) (by omega)
  refine wp_mono this ?_
  intro v ρ2 _ ⟨x1, x2⟩
  have x1 : v = nI (34 + egA (fo4 X) 35 6 + egA (fo4 X) 35 7) := x1
  rw [q6' 6 (Or.inl rfl), q6' 7 (Or.inr rfl), q6.1, q6.2] at x1
  exact ⟨x1, x2⟩
end CY30
section CY31
variable {b0 fu : Nat} {σ τ : tM} {A B U : tS} {N N' K K' : Nat} {J : tJ} {P : Int32 → tM → Prop}
theorem format_wpy {x y : Int32} (h : RMy b0 J σ A N) (hu : 1200000 ≤ fu) : wp (FRy b0) σ (m_X12_format b0 fu (b0 + 35) x y σ) (fun v τ => v = iz (fmY x y A J).1 ∧ RMy b0 (fmY x y A J).2.2 τ (fmY x y A J).2.1 N) := by
  have h1 : RMy b0 J (sI σ (b0 + 35) 0 0) (up2 A 35 0 0) N := RM_fixy (x := 0) h rfl (by decide) rfl (by decide)
  have fr : FRy b0 σ (sI σ (b0 + 35) 0 0) := FRy_sI (refO_f 35 (by omega) (by omega))
  refine wp_grw (FRy_good b0) ?_
  unfold J_X12_format_31 fmY
  rw [ckR_35y h.ra.lay]
  by_cases c0 : x < 40
  · rw [if_pos c0, if_pos (Or.inl c0)]
    exact wp_ret fr ⟨rfl, h1⟩
  rw [if_neg c0]
  by_cases c1 : (4096 : Int32) < x
  · rw [if_pos c1, if_pos (Or.inr (Or.inl c1))]
    exact wp_ret fr ⟨rfl, h1⟩
  rw [if_neg c1]
  by_cases c2 : y < 16
  · rw [if_pos c2, if_pos (Or.inr (Or.inr (Or.inl c2)))]
    exact wp_ret fr ⟨rfl, h1⟩
  rw [if_neg c2]
  by_cases c3 : (2000 : Int32) < y
  · rw [if_neg (Int32.not_le.mpr c3), if_pos (Or.inr (Or.inr (Or.inr c3)))]
    exact wp_ret fr ⟨rfl, h1⟩
  rw [if_pos (Int32.not_lt.mp c3), if_neg (fun r => by
    rcases r with r | r | r | r
    · exact c0 r
    · exact c1 r
    · exact c2 r
    · exact c3 r)]
  have z0 : ¬ x < 0 := fun r => c0 (Int32.lt_trans r (by decide))
  have z1 : ¬ y < 0 := fun r => c2 (Int32.lt_trans r (by decide))
  obtain ⟨l, hl, rfl⟩ := nI_of z0
  obtain ⟨r, hr, rfl⟩ := nI_of z1
  rw [nI_cl hl, nI_cl hr]
  refine wp_mono (format_bodyy h hl hr hu) ?_
  intro v ρ _ ⟨x1, x2⟩
  exact ⟨by rw [x1, iz_n], x2⟩
end CY31
