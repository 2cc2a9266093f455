/-! ===== PURE: the reference's entries of directories ===== -/
def ex (A : Nat → Nat → Nat) (d k w : Nat) : Nat := 6080 + (hasA A d (k / 8) - 1) * 274 + (34 + k % 8 * 30 + w)
def eN (A : Nat → Nat → Nat) (d k : Nat) : Nat := A 36 (ex A d k 0)
def eL (A : Nat → Nat → Nat) (d k : Nat) : Nat := A 36 (ex A d k 1)
def eC (A : Nat → Nat → Nat) (d k i : Nat) : Nat := A 36 (ex A d k (2 + i))
/-- how many entries a directory has -/
def eAll (A : Nat → Nat → Nat) (d : Nat) : Nat := nd A d 1 / 256 * 8
/-- all blocks of a directory are there -/
def dirOk (A : Nat → Nat → Nat) (d : Nat) : Prop := d < 64 ∧ nd A d 1 / 256 < 1064 ∧ ∀ i, i < nd A d 1 / 256 → hasA A d i ≠ 0
def fP (A : Nat → Nat → Nat) (d : Nat) (nm : Nat → Nat) (n k : Nat) : Bool := eN A d k != 64 && (eL A d k == n && decide (sr (fun i => eC A d k i != nm i) 0 n = n))
/-- the entry that has a name; the number of all without -/
def fA (A : Nat → Nat → Nat) (d : Nat) (nm : Nat → Nat) (n : Nat) : Nat := sr (fP A d nm n) 0 (eAll A d)
def ffA (A : Nat → Nat → Nat) (d : Nat) : Nat := sr (fun k => eN A d k == 64) 0 (eAll A d)
section RX
variable {b0 fu : Nat} {σ τ : tM} {A : Nat → Nat → Nat} {N : Nat} {J : tJ}
theorem eN_lt (h : okT A) (d k : Nat) : eN A d k < 65 := by
  have := h (ex A d k 0)
  unfold eN
  unfold ex at this ⊢
  rw [bT_r _ (by omega)] at this
  unfold bR at this
  repeat (first | omega | split at this)
theorem eL_lt (h : okT A) (d k : Nat) : eL A d k < 29 := by
  have := h (ex A d k 1)
  unfold eL
  unfold ex at this ⊢
  rw [bT_r _ (by omega)] at this
  unfold bR at this
  repeat (first | omega | split at this)
theorem entryAt_eq (h : RA b0 σ A) (hT : okT A) {d k w : Nat} (hd : d < 64) (hk : k / 8 < 1064) (hw : w < 30) (hz : hasA A d (k / 8) ≠ 0) : m_X12_entryAt b0 fu (b0 + 35) (nI d) (nI k) (nI w) σ = some (nI (ex A d k w), σ) := by
  have L := h.lay
  have l1 := has_le hT hd hk
  unfold m_X12_entryAt
  simp (disch := first | assumption | omega) only [lits, nI_add, pk_mul, ofi, nI_cl, nI_eqP, nI_leP, nI_ltP, nI_dv, nI_md, nI_sb, ckI_n, ckR_35 L]
  rw [has_eq h hT hd hk, cll_some, nI_sb (by omega), room_eq, cll_some, grw_same]
  unfold ex
  rw [show k - k / 8 * 8 = k % 8 by omega]
theorem entryNode_eq (h : RA b0 σ A) (hT : okT A) {d k : Nat} (hd : d < 64) (hk : k / 8 < 1064) (hz : hasA A d (k / 8) ≠ 0) : m_X12_entryNode b0 fu (b0 + 35) (nI d) (nI k) σ = some (nI (eN A d k), σ) := by
  have L := h.lay
  have l1 := has_le hT hd hk
  have hx : ex A d k 0 < 554080 := by unfold ex; omega
  unfold m_X12_entryNode
  rw [ckR_35 L, osm_p (rfR_35_1 L)]
  show grw σ (cll (m_X12_entryAt b0 fu (b0 + 35) (nI d) (nI k) (nI 0) σ) _) = _
  rw [entryAt_eq h hT hd hk (by omega) hz, cll_some, ckR_36 L, ckI_n hx (by omega), nI_cl (by omega), rd_36 h, grw_same]
  rfl
theorem entries_eq (h : RA b0 σ A) (hT : okT A) {d : Nat} (hd : d < 64) : m_X12_entries b0 fu (b0 + 35) (nI d) σ = some (nI (eAll A d), σ) := by
  have L := h.lay
  have hw := sz_lt hT hd
  unfold m_X12_entries
  rw [ckR_35 L]
  show grw σ (cll (m_X12_node b0 fu (b0 + 35) (nI d) (nI 1) σ) _) = _
  rw [node_nd h hd (by omega), cll_some]
  show grw σ (some (nI (nd A d 1) / nI 256 * nI 8, σ)) = _
  rw [nI_dv (by omega) (by omega) (by omega), pk_mul, grw_same]
  rfl
/-- the bytes of a name in the memory -/
def nmAt (b0 : Nat) (σ : tM) (a fr : Nat) (nm : Nat → Nat) (n : Nat) : Prop := (∃ l, tk σ a = .inr (1, l) ∧ fr + n ≤ l ∧ l < 2147483648) ∧ (b0 ≤ a ∧ a < b0 + tn σ) ∧ ∀ i, i < n → tI σ a (fr + i) = nI (nm i) ∧ nm i < 128
theorem find56 (h : RA b0 σ A) (hT : okT A) {d k a fr n al : Nat} {nm : Nat → Nat} {rc} (hd : d < 64) (hk : k / 8 < 1064) (hz : hasA A d (k / 8) ≠ 0) (hn : n < 29) (hN : nmAt b0 σ a fr nm n) : ∀ m i f, i + m = n → m + 1 < f → L_X12_find_56 b0 fu rc f (b0 + 35) (nI d) a (nI fr) (nI n) (nI al) (nI k) (nI 1) (nI i) σ = if sr (fun i => eC A d k i != nm i) i m = n then some (nI k, σ) else J_X12_find_114 b0 fu rc (b0 + 35) (nI d) a (nI fr) (nI n) (nI al) (nI k) σ := by
  have L := h.lay
  have l1 := has_le hT hd hk
  obtain ⟨⟨l, k1, k2, k3⟩, k4, k5⟩ := hN
  intro m
  induction m with
  | zero =>
    intro i f hi hf
    obtain ⟨f, rfl⟩ : ∃ q, f = q + 1 := ⟨f - 1, by omega⟩
    unfold L_X12_find_56
    rw [ltb_def, if_l (by omega) (by omega), if_pos (by omega), if_pos (by unfold sr; omega)]
    unfold J_X12_find_106
    rw [if_neg (by decide)]
  | succ m ih =>
    intro i f hi hf
    obtain ⟨f, rfl⟩ : ∃ q, f = q + 1 := ⟨f - 1, by omega⟩
    have hx : ex A d k (2 + i) < 554080 := by unfold ex; omega
    obtain ⟨c1, c2⟩ := k5 i (by omega)
    have b1 : eC A d k i < 2147483648 := bd_36 h _
    unfold L_X12_find_56
    rw [ltb_def, if_l (by omega) (by omega), if_neg (by omega), if_neg (by decide), ckR_35 L, osm_p (rfR_35_1 L)]
    rw [show (2 : Int32) + nI i = nI (2 + i) from nI_add 2 i, entryAt_eq h hT hd hk (by omega) hz, cll_some, ckR_36 L, ckI_n hx (by omega), ckR_p k1 k4, nI_add, ckI_n (by omega) k3, nI_cl (by omega), nI_cl (by omega), c1, rd_36 h]
    show (if nI (eC A d k i) = nI (nm i) then _ else _) = _
    rw [if_e b1 (by omega)]
    unfold J_X12_find_98
    simp only [ltb_def, ofi]
    by_cases e : eC A d k i = nm i
    · rw [if_pos e]
      show L_X12_find_56 b0 fu rc f (b0 + 35) (nI d) a (nI fr) (nI n) (nI al) (nI k) (nI 1) (nI (i + 1)) σ = _
      rw [ih (i + 1) f (by omega) (by omega)]
      have : sr (fun i => eC A d k i != nm i) i (m + 1) = sr (fun i => eC A d k i != nm i) (i + 1) m := by simp [sr, e]
      rw [this]
    · rw [if_neg e]
      have : sr (fun i => eC A d k i != nm i) i (m + 1) = i := by simp [sr, e]
      rw [this, if_neg (by omega)]
      obtain ⟨f, rfl⟩ : ∃ q, f = q + 1 := ⟨f - 1, by omega⟩
      unfold L_X12_find_56
      simp only [ltb_def]
      rw [if_pos trivial]
      unfold J_X12_find_106
      rw [if_pos rfl]
      split <;> rfl
theorem find10 (h : RA b0 σ A) (hT : okT A) {d a fr n : Nat} {nm : Nat → Nat} (hD : dirOk A d) (hn : n < 121) (hN : nmAt b0 σ a fr nm n) (hu : 10000 ≤ fu) : ∀ m k f, k + m = eAll A d → m < f → L_X12_find_10 b0 fu f (b0 + 35) (nI d) a (nI fr) (nI n) (nI (eAll A d)) (nI k) σ = some (if sr (fP A d nm n) k m < eAll A d then nI (sr (fP A d nm n) k m) else -1, σ) := by
  have L := h.lay
  obtain ⟨hd, hs, hb⟩ := hD
  have ea : eAll A d < 8512 := by unfold eAll; omega
  intro m
  induction m with
  | zero =>
    intro k f hk hf
    obtain ⟨f, rfl⟩ : ∃ q, f = q + 1 := ⟨f - 1, by omega⟩
    unfold L_X12_find_10
    rw [ltb_def, if_l (by omega) (by omega), if_pos (by omega), if_neg (by unfold sr; omega)]
  | succ m ih =>
    intro k f hk hf
    obtain ⟨f, rfl⟩ : ∃ q, f = q + 1 := ⟨f - 1, by omega⟩
    have hk8 : k / 8 < nd A d 1 / 256 := by unfold eAll at hk; omega
    have hz := hb _ hk8
    have l1 := has_le hT hd (i := k / 8) (by omega)
    have hx : ex A d k 1 < 554080 := by unfold ex; omega
    have b1 := eN_lt hT d k
    have b2 := eL_lt hT d k
    have nx : J_X12_find_114 b0 fu (L_X12_find_10 b0 fu f) (b0 + 35) (nI d) a (nI fr) (nI n) (nI (eAll A d)) (nI k) σ = some (if sr (fP A d nm n) (k + 1) m < eAll A d then nI (sr (fP A d nm n) (k + 1) m) else -1, σ) := by
      unfold J_X12_find_114
      rw [ltb_def, ofi]
      exact ih (k + 1) f (by omega) (by omega)
    unfold L_X12_find_10
    rw [ltb_def, if_l (by omega) (by omega), if_neg (by omega), ckR_35 L, entryNode_eq h hT hd (by omega) hz, cll_some]
    show (if nI (eN A d k) = nI 64 then _ else _) = _
    rw [if_e (by omega) (by omega)]
    by_cases e : eN A d k = 64
    · rw [if_pos e, nx]
      have : fP A d nm n k = false := by simp [fP, e]
      simp [sr, this]
    · rw [if_neg e, ckR_35 L, osm_p (rfR_35_1 L)]
      show cll (m_X12_entryAt b0 fu (b0 + 35) (nI d) (nI k) (nI 1) σ) _ = _
      rw [entryAt_eq h hT hd (by omega) (by omega) hz, cll_some, ckR_36 L, ckI_n hx (by omega), nI_cl (by omega), rd_36 h]
      show (if nI (eL A d k) = nI n then _ else _) = _
      rw [if_e (by omega) (by omega)]
      by_cases e2 : eL A d k = n
      · rw [if_pos e2]
        show L_X12_find_56 b0 fu (L_X12_find_10 b0 fu f) fu (b0 + 35) (nI d) a (nI fr) (nI n) (nI (eAll A d)) (nI k) (nI 1) (nI 0) σ = _
        rw [find56 h hT hd (by omega) hz (by omega) hN n 0 fu (by omega) (by omega), nx]
        by_cases e3 : sr (fun i => eC A d k i != nm i) 0 n = n
        · rw [if_pos e3]
          have : fP A d nm n k = true := by simp [fP, e, e2, e3]
          have e4 : sr (fP A d nm n) k (m + 1) = k := by simp [sr, this]
          rw [e4, if_pos (by omega)]
        · rw [if_neg e3]
          have : fP A d nm n k = false := by simp [fP, e3]
          simp [sr, this]
      · rw [if_neg e2, nx]
        have : fP A d nm n k = false := by simp [fP, e2]
        simp [sr, this]
theorem find_eq (h : RA b0 σ A) (hT : okT A) {d a fr n : Nat} {nm : Nat → Nat} (hD : dirOk A d) (hn : n < 121) (hN : nmAt b0 σ a fr nm n) (hu : 10000 ≤ fu) : m_X12_find b0 fu (b0 + 35) (nI d) a (nI fr) (nI n) σ = some (if fA A d nm n < eAll A d then nI (fA A d nm n) else -1, σ) := by
  have L := h.lay
  have ea : eAll A d < 8512 := by have := hD.2.1; unfold eAll; omega
  unfold m_X12_find
  rw [ckR_35 L, entries_eq h hT hD.1, cll_some]
  show grw σ (L_X12_find_10 b0 fu fu (b0 + 35) (nI d) a (nI fr) (nI n) (nI (eAll A d)) (nI 0) σ) = _
  rw [find10 h hT hD hn hN hu (eAll A d) 0 fu (by omega) (by omega), grw_same]
  rfl
theorem firstFree_loop (h : RA b0 σ A) (hT : okT A) {d : Nat} (hD : dirOk A d) : ∀ m k f, k + m = eAll A d → m < f → L_X12_firstFree_8 b0 fu f (b0 + 35) (nI d) (nI (eAll A d)) (nI k) σ = some (nI (sr (fun k => eN A d k == 64) k m), σ) := by
  have L := h.lay
  obtain ⟨hd, hs, hb⟩ := hD
  have ea : eAll A d < 8512 := by unfold eAll; omega
  intro m
  induction m with
  | zero =>
    intro k f hk hf
    obtain ⟨f, rfl⟩ : ∃ q, f = q + 1 := ⟨f - 1, by omega⟩
    unfold L_X12_firstFree_8
    rw [ltb_def, if_l (by omega) (by omega), if_pos (by omega)]
    rfl
  | succ m ih =>
    intro k f hk hf
    obtain ⟨f, rfl⟩ : ∃ q, f = q + 1 := ⟨f - 1, by omega⟩
    have hk8 : k / 8 < nd A d 1 / 256 := by unfold eAll at hk; omega
    have b1 := eN_lt hT d k
    unfold L_X12_firstFree_8
    rw [ltb_def, if_l (by omega) (by omega), if_neg (by omega), ckR_35 L, entryNode_eq h hT hd (by omega) (hb _ hk8), cll_some]
    show (if nI (eN A d k) = nI 64 then _ else _) = _
    rw [if_e (by omega) (by omega), ltb_def, ofi, ih (k + 1) f (by omega) (by omega)]
    by_cases e : eN A d k = 64
    · rw [if_pos e]
      simp [sr, e, J_X12_firstFree_30]
    · rw [if_neg e]
      simp [sr, e]
theorem firstFree_eq (h : RA b0 σ A) (hT : okT A) {d : Nat} (hD : dirOk A d) (hu : 10000 ≤ fu) : m_X12_firstFree b0 fu (b0 + 35) (nI d) σ = some (nI (ffA A d), σ) := by
  have L := h.lay
  have ea : eAll A d < 8512 := by have := hD.2.1; unfold eAll; omega
  unfold m_X12_firstFree
  rw [ckR_35 L, entries_eq h hT hD.1, cll_some]
  show grw σ (L_X12_firstFree_8 b0 fu fu (b0 + 35) (nI d) (nI (eAll A d)) (nI 0) σ) = _
  rw [firstFree_loop h hT hD (eAll A d) 0 fu (by omega) (by omega), grw_same]
  rfl
end RX
