/-! ===== PURE: the reference's readers ===== -/
section RB
variable {b0 fu : Nat} {σ τ : tM} {A : Nat → Nat → Nat}
theorem room_eq (r w : Nat) : m_X12_room b0 fu (nI r) (nI w) σ = some (nI (6080 + r * 274 + w), σ) := by
  simp only [m_X12_room, lits, nI_add, pk_mul, ofi, ltb_def, cll_some, grw_same, osm_some, ckZ_0, ckZ_1]
theorem node_eq (h : RA b0 σ A) {n w : Nat} (hn : n < 64) (hw : w < 95) : m_X12_node b0 fu (b0 + 35) (nI n) (nI w) σ = some (nI (A 36 (n * 95 + w)), σ) := by
  have L := h.lay
  have : n * 95 + w < 554080 := by omega
  simp (disch := first | assumption | omega) only [m_X12_node, lits, nI_add, pk_mul, ofi, ltb_def, cll_some, grw_same, osm_some, ckZ_0, ckZ_1, nI_cl, nI_eqP, nI_leP, nI_ltP, nI_dv, nI_md, nI_sb, ckI_n, ckR_35 L, rfR_35_1 L, ckR_36 L, rd_36 h]
theorem blocks_eq (h : RA b0 σ A) : m_X12_blocks b0 fu (b0 + 35) σ = some (nI (34 + A 35 6 + A 35 7), σ) := by
  have L := h.lay
  simp (disch := first | assumption | omega) only [m_X12_blocks, lits, nI_add, pk_mul, ofi, ltb_def, cll_some, grw_same, osm_some, ckZ_0, ckZ_1, ckR_35 L, rf_6 h, rf_7 h]
theorem numberOf_eq (h : RA b0 σ A) (r : Nat) : m_X12_numberOf b0 fu (b0 + 35) (nI r) σ = some (nI (34 + A 35 6 + r), σ) := by
  have L := h.lay
  simp (disch := first | assumption | omega) only [m_X12_numberOf, lits, nI_add, pk_mul, ofi, ltb_def, cll_some, grw_same, osm_some, ckZ_0, ckZ_1, ckR_35 L, rf_6 h]
theorem pointer_eq (h : RA b0 σ A) {r k : Nat} (hr : r < 2000) (hk : k < 32) : m_X12_pointer b0 fu (b0 + 35) (nI r) (nI k) σ = some (nI (A 36 (6080 + r * 274 + (2 + k))), σ) := by
  have L := h.lay
  have : 6080 + r * 274 + (2 + k) < 554080 := by omega
  simp (disch := first | assumption | omega) only [m_X12_pointer, room_eq, lits, nI_add, pk_mul, ofi, ltb_def, cll_some, grw_same, osm_some, ckZ_0, ckZ_1, nI_cl, nI_eqP, nI_leP, nI_ltP, nI_dv, nI_md, nI_sb, ckI_n, ckR_35 L, rfR_35_1 L, ckR_36 L, rd_36 h]
/-- a room's block is free -/
def frA (A : Nat → Nat → Nat) (r : Nat) : Bool := A 36 (6080 + r * 274) == 0 && A 49 r == 0
theorem isFree_eq (h : RA b0 σ A) {r : Nat} (hr : r < 2000) : m_X12_isFree b0 fu (b0 + 35) (nI r) σ = some (nI (if frA A r then 1 else 0), σ) := by
  have L := h.lay
  have h1 : 6080 + r * 274 < 554080 := by omega
  have b1 := bd_36 h (6080 + r * 274)
  have b2 := bd_49 h r
  simp (disch := first | assumption | omega) only [m_X12_isFree, room_eq, lits, nI_add, pk_mul, ofi, ltb_def, cll_some, grw_same, osm_some, ckZ_0, ckZ_1, nI_cl, nI_eqP, nI_leP, nI_ltP, nI_dv, nI_md, nI_sb, ckI_n, ckR_35 L, rfR_35_1 L, rfR_35_24 L, ckR_36 L, ckR_49 L, rd_36 h, rd_49 h, J_X12_isFree_27, J_X12_isFree_26, Nat.add_zero]
  unfold frA
  by_cases e1 : A 36 (6080 + r * 274) = 0
  · by_cases e2 : A 49 r = 0
    · simp [e1, e2, grw_same, lits, ckZ_0, ckZ_1]
    · simp [e1, e2, grw_same, lits, ckZ_0, ckZ_1]
  · simp [e1, grw_same, lits, ckZ_0, ckZ_1]
theorem freeBlocks_loop (h : RA b0 σ A) (hr : A 35 7 ≤ 2000) : ∀ m k c n, k + m = A 35 7 → c ≤ k → m < n → L_X12_freeBlocks_4 b0 fu n (b0 + 35) (nI c) (nI k) σ = some (nI (c + cn (frA A) k m), σ) := by
  have L := h.lay
  intro m
  induction m with
  | zero =>
    intro k c n hk hc hn
    obtain ⟨n, rfl⟩ : ∃ q, n = q + 1 := ⟨n - 1, by omega⟩
    simp (disch := first | assumption | omega) only [L_X12_freeBlocks_4, lits, nI_add, pk_mul, ofi, ltb_def, cll_some, grw_same, osm_some, ckZ_0, ckZ_1, nI_cl, nI_eqP, nI_leP, nI_ltP, nI_dv, nI_md, nI_sb, ckI_n, ckR_35 L, rf_7 h]
    rw [if_pos (by omega)]
    rfl
  | succ m ih =>
    intro k c n hk hc hn
    obtain ⟨n, rfl⟩ : ∃ q, n = q + 1 := ⟨n - 1, by omega⟩
    simp (disch := first | assumption | omega) only [L_X12_freeBlocks_4, lits, nI_add, pk_mul, ofi, ltb_def, cll_some, grw_same, osm_some, ckZ_0, ckZ_1, nI_cl, nI_eqP, nI_leP, nI_ltP, nI_dv, nI_md, nI_sb, ckI_n, ckR_35 L, rf_7 h]
    rw [if_neg (by omega), isFree_eq h (by omega), cll_some]
    by_cases e : frA A k = true
    · rw [if_pos e, if_neg (by decide)]
      simp only [J_X12_freeBlocks_23, lits, nI_add, pk_mul, ofi, ltb_def, cll_some, grw_same, osm_some, ckZ_0, ckZ_1]
      rw [ih (k + 1) (c + 1) n (by omega) (by omega) (by omega)]
      simp [cn, e, Nat.add_assoc]
    · rw [if_neg e, if_pos rfl]
      simp only [J_X12_freeBlocks_23, lits, nI_add, pk_mul, ofi, ltb_def, cll_some, grw_same, osm_some, ckZ_0, ckZ_1]
      rw [ih (k + 1) c n (by omega) (by omega) (by omega)]
      simp [cn, e]
theorem freeBlocks_eq (h : RA b0 σ A) (hr : A 35 7 ≤ 2000) (hf : 3000 ≤ fu) : m_X12_freeBlocks b0 fu (b0 + 35) σ = some (nI (cn (frA A) 0 (A 35 7)), σ) := by
  have := freeBlocks_loop (fu := fu) h hr (A 35 7) 0 0 fu (by omega) (by omega) (by omega)
  simp only [m_X12_freeBlocks, lits, nI_add, pk_mul, ofi]
  rw [this, Nat.zero_add, grw_same]
end RB
