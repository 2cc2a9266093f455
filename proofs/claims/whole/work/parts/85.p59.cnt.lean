/-! ===== PURE: the reference's counts; cut ===== -/
def dbA (A : tS) : Nat := cn (fun r => A 48 r != 0) 0 (A 35 7)
def rbA (A : tS) : Nat := cn (fun r => A 49 r != 0) 0 (A 35 7)
def fnA (A : tS) : Nat := cn (fun n => nd A n 0 == 0) 0 64
section CT
variable {b0 fu : Nat} {σ τ : tM} {A B U : tS} {N N' K K' : Nat} {J : tJ}
theorem db4 (h : RA b0 σ A) (hr : A 35 7 ≤ 2000) : ∀ m k c f, k + m = A 35 7 → m < f → c + m < 100000 → L_X12_dirtyBlocks_4 b0 fu f (b0 + 35) (nI c) (nI k) σ = some (nI (c + cn (fun r => A 48 r != 0) k m), σ) := by
  have L := h.lay
  intro m
  induction m with
  | zero =>
    intro k c f hi hf hc
    obtain ⟨f, rfl⟩ : ∃ q, f = q + 1 := ⟨f - 1, by omega⟩
    unfold L_X12_dirtyBlocks_4
    rw [ltb_def, ckR_35 L, rf_7 h, if_l (by omega) (by omega), if_pos (by omega)]
    rfl
  | succ m ih =>
    intro k c f hi hf hc
    obtain ⟨f, rfl⟩ : ∃ q, f = q + 1 := ⟨f - 1, by omega⟩
    have b48' : A 48 k < 2 := h.2.2 48 k
    have b48 : A 48 k < 2147483648 := by omega
    unfold L_X12_dirtyBlocks_4 J_X12_dirtyBlocks_27
    rw [ltb_def, ckR_35 L, rf_7 h, if_l (by omega) (by omega), if_neg (by omega), osm_p (rfR_35_23 L), ckR_48 L, ckI_n (by omega) (by omega), nI_cl (by omega), rd_48 h]
    show (if nI (A 48 k) = nI 0 then _ else _) = _
    rw [if_e b48 (by omega), ltb_def, ltb_def, ltb_def, ltb_def, ofi]
    have e1 : nI c + (1 : Int32) = nI (c + 1) := nI_add c 1
    have e0 : nI c + (0 : Int32) = nI c := nI_add c 0
    rw [e1, e0, ih (k + 1) (c + 1) f (by omega) (by omega) (by omega), ih (k + 1) c f (by omega) (by omega) (by omega)]
    show _ = some (nI (c + (cn (fun r => A 48 r != 0) k (m + 1))), σ)
    by_cases e : A 48 k = 0
    · rw [if_pos e]
      simp [cn, e]
    · rw [if_neg e]
      simp [cn, e]
      congr 1
      omega
theorem dirtyBlocks_eq (h : RA b0 σ A) (hr : A 35 7 ≤ 2000) (hu : 3000 ≤ fu) : m_X12_dirtyBlocks b0 fu (b0 + 35) σ = some (nI (dbA A), σ) := by
  unfold m_X12_dirtyBlocks
  show grw σ (L_X12_dirtyBlocks_4 b0 fu fu (b0 + 35) (nI 0) (nI 0) σ) = _
  rw [db4 h hr (A 35 7) 0 0 fu (by omega) (by omega) (by omega), Nat.zero_add]
  exact grw_same
theorem rb4 (h : RA b0 σ A) (hr : A 35 7 ≤ 2000) : ∀ m k c f, k + m = A 35 7 → m < f → c + m < 100000 → L_X12_retiredBlocks_4 b0 fu f (b0 + 35) (nI c) (nI k) σ = some (nI (c + cn (fun r => A 49 r != 0) k m), σ) := by
  have L := h.lay
  intro m
  induction m with
  | zero =>
    intro k c f hi hf hc
    obtain ⟨f, rfl⟩ : ∃ q, f = q + 1 := ⟨f - 1, by omega⟩
    unfold L_X12_retiredBlocks_4
    rw [ltb_def, ckR_35 L, rf_7 h, if_l (by omega) (by omega), if_pos (by omega)]
    rfl
  | succ m ih =>
    intro k c f hi hf hc
    obtain ⟨f, rfl⟩ : ∃ q, f = q + 1 := ⟨f - 1, by omega⟩
    have b49 : A 49 k < 2147483648 := h.2.2 49 k
    unfold L_X12_retiredBlocks_4 J_X12_retiredBlocks_27
    rw [ltb_def, ckR_35 L, rf_7 h, if_l (by omega) (by omega), if_neg (by omega), osm_p (rfR_35_24 L), ckR_49 L, ckI_n (by omega) (by omega), nI_cl (by omega), rd_49 h]
    show (if nI (A 49 k) ≤ nI 0 then _ else _) = _
    rw [if_l b49 (by omega), ltb_def, ltb_def, ltb_def, ltb_def, ofi]
    have e1 : nI c + (1 : Int32) = nI (c + 1) := nI_add c 1
    have e0 : nI c + (0 : Int32) = nI c := nI_add c 0
    rw [e1, e0, ih (k + 1) (c + 1) f (by omega) (by omega) (by omega), ih (k + 1) c f (by omega) (by omega) (by omega)]
    show _ = some (nI (c + (cn (fun r => A 49 r != 0) k (m + 1))), σ)
    by_cases e : A 49 k = 0
    · rw [if_pos (by omega)]
      simp [cn, e]
    · rw [if_neg (by omega)]
      simp [cn, e]
      congr 1
      omega
theorem retiredBlocks_eq (h : RA b0 σ A) (hr : A 35 7 ≤ 2000) (hu : 3000 ≤ fu) : m_X12_retiredBlocks b0 fu (b0 + 35) σ = some (nI (rbA A), σ) := by
  unfold m_X12_retiredBlocks
  show grw σ (L_X12_retiredBlocks_4 b0 fu fu (b0 + 35) (nI 0) (nI 0) σ) = _
  rw [rb4 h hr (A 35 7) 0 0 fu (by omega) (by omega) (by omega), Nat.zero_add]
  exact grw_same
theorem fn4 (h : RA b0 σ A) : ∀ m k c f, k + m = 64 → m < f → c + m < 100000 → L_X12_freeNodes_4 b0 fu f (b0 + 35) (nI c) (nI k) σ = some (nI (c + cn (fun n => nd A n 0 == 0) k m), σ) := by
  have L := h.lay
  intro m
  induction m with
  | zero =>
    intro k c f hi hf hc
    obtain ⟨f, rfl⟩ : ∃ q, f = q + 1 := ⟨f - 1, by omega⟩
    unfold L_X12_freeNodes_4
    rw [ltb_def, show (64 : Int32) = nI 64 from rfl, if_l (by omega) (by omega), if_pos (by omega)]
    rfl
  | succ m ih =>
    intro k c f hi hf hc
    obtain ⟨f, rfl⟩ : ∃ q, f = q + 1 := ⟨f - 1, by omega⟩
    unfold L_X12_freeNodes_4 J_X12_freeNodes_25
    rw [ltb_def, show (64 : Int32) = nI 64 from rfl, if_l (by omega) (by omega), if_neg (by omega), ckR_35 L]
    show cll (m_X12_node b0 fu (b0 + 35) (nI k) (nI 0) σ) (fun v4 ρ5 => if v4 = nI 0 then _ else _) = _
    rw [node_nd h (by omega) (by omega), cll_some, if_e (nd_bd h _ _) (by omega), ltb_def, ltb_def, ltb_def, ltb_def, ofi]
    have e1 : nI c + (1 : Int32) = nI (c + 1) := nI_add c 1
    have e0 : nI c + (0 : Int32) = nI c := nI_add c 0
    rw [e1, e0, ih (k + 1) (c + 1) f (by omega) (by omega) (by omega), ih (k + 1) c f (by omega) (by omega) (by omega)]
    show _ = some (nI (c + (cn (fun n => nd A n 0 == 0) k (m + 1))), σ)
    by_cases e : nd A k 0 = 0
    · rw [if_pos e]
      simp [cn, e]
      congr 1
      omega
    · rw [if_neg e]
      simp [cn, e]
theorem freeNodes_eq (h : RA b0 σ A) (hu : 3000 ≤ fu) : m_X12_freeNodes b0 fu (b0 + 35) σ = some (nI (fnA A), σ) := by
  unfold m_X12_freeNodes
  show grw σ (L_X12_freeNodes_4 b0 fu fu (b0 + 35) (nI 0) (nI 0) σ) = _
  rw [fn4 h 64 0 0 fu (by omega) (by omega) (by omega), Nat.zero_add]
  exact grw_same
end CT
