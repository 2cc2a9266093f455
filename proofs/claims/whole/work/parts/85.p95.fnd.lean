/-! ===== PURE: the class's Tree: find, placeForEntry, needs, counts ===== -/
def clE (C : tS) (d k : Nat) : Nat := ptC C d (k / 8) % 2048
def lnE (C : tS) (d k : Nat) : Nat := ocC C (clE C d k) (k % 8 * 32 + 28)
def chE (C : tS) (d k i : Nat) : Nat := ocC C (clE C d k) (k % 8 * 32 + i)
def alE (C : tS) (d : Nat) : Nat := if kiC C d = 2 then szC C d / 32 else 0
def fE (C : tS) (d o st l k : Nat) : Bool := decide (lnE C d k = l) && decide (sr (fun i => chE C d k i != C o (st + i)) 0 l = l)
def neL (C : tS) (n fr : Nat) : Nat → Nat → Nat
  | _, 0 => 0
  | i, m + 1 => (if ptC C n i = 0 then 1 else 0) + (if 8 ≤ i ∧ (i = fr ∨ (i - 8) % 32 = 0) ∧ tbC C n i = 0 then 1 else 0) + (if 40 ≤ i ∧ (i = fr ∨ i = 40) ∧ nwC C n 10 = 0 then 1 else 0) + neL C n fr (i + 1) m
section FI
variable {b0 fu : Nat} {σ τ : tM} {C : tS} {D : tD}
theorem oc_lt (C : tS) (c i : Nat) : ocC C c i < 256 := by
  unfold ocC
  split
  · exact by8_lt _ _
  · decide
/-- a text: which cell, how long -/
def isX (o len : Nat) : Prop := (o = 25 ∧ len = 760) ∨ (o = 29 ∧ len = 120) ∨ (o = 31 ∧ len = 120)
theorem tx_k {o len : Nat} (ho : isX o len) (h : CA b0 σ C) : tk σ (b0 + o) = .inr (1, len) ∧ (∀ j, tI σ (b0 + o) j = sb (C o j)) ∧ o < 33 := by
  have L := h.lay
  rcases ho with ⟨rfl, rfl⟩ | ⟨rfl, rfl⟩ | ⟨rfl, rfl⟩
  · exact ⟨rkC25 L, cd_25 h, by omega⟩
  · exact ⟨rkC29 L, cd_29 h, by omega⟩
  · exact ⟨rkC31 L, cd_31 h, by omega⟩
theorem fnd104 (h : CA b0 σ C) (hc : ci C) {o len : Nat} (ho : isX o len) {d st l k all cell : Nat} {rc} (hb : ∀ i, i < l → C o (st + i) < 128) (hl : l ≤ 28) (hst : st + l ≤ len) (hcell : cell < 2048) (ec : cell = clE C d k) (hu : 100 ≤ fu) : ∀ m j f, j + m = l → m + 1 < f → L_X8_find_104 b0 fu rc f (b0 + 18) (nI d) (b0 + o) (nI st) (nI l) (nI all) (nI cell) (nI k) (nI (k % 8 * 32)) (nI j) σ = (if sr (fun i => chE C d k i != C o (st + i)) j m = l then some (nI k, σ) else rc (b0 + 18) (nI d) (b0 + o) (nI st) (nI l) (nI all) (nI cell) (nI k + Int32.ofInt 1) σ) := by
  have L := h.lay
  have h74 := L.1
  obtain ⟨tk1, tk2, tk3⟩ := tx_k ho h
  have len1 : len ≤ 760 := by rcases ho with q | q | q <;> omega
  intro m
  induction m with
  | zero =>
    intro j f hj hf
    obtain ⟨f, rfl⟩ : ∃ q, f = q + 1 := ⟨f - 1, by omega⟩
    have : j = l := by omega
    subst this
    unfold L_X8_find_104 J_X8_find_152
    rw [ltb_def, if_neg (nI_pos (by omega)), if_pos (show nI j ≤ nI j from (nI_leP (by omega) (by omega)).mpr (Nat.le_refl _)), if_pos rfl]
    rw [if_pos (show sr (fun i => chE C d k i != C o (st + i)) j 0 = j from rfl)]
  | succ m ih =>
    intro j f hj hf
    obtain ⟨f, rfl⟩ : ∃ q, f = q + 1 := ⟨f - 1, by omega⟩
    have b1 := hb j (by omega)
    have b2 := oc_lt C cell (k % 8 * 32 + j)
    have k8 : k % 8 < 8 := Nat.mod_lt _ (by omega)
    unfold L_X8_find_104 J_X8_find_147
    rw [ltb_def, if_neg (nI_pos (by omega)), if_l (by omega) (by omega), if_neg (by omega), ckC_18 L, osm_p (rfC_18_0 L), ckC_10 L, nI_add, octet_c h hc (by omega) (by omega), cll_some, ckR_p tk1 ⟨by omega, by omega⟩, nI_add, ckI_n (by omega) (by omega), nI_cl (by omega), tk2, sb_nI b1, if_e (by omega) (by omega)]
    have es : sr (fun i => chE C d k i != C o (st + i)) j (m + 1) = if (chE C d k j != C o (st + j)) = true then j else sr (fun i => chE C d k i != C o (st + i)) (j + 1) m := rfl
    have ech : chE C d k j = ocC C cell (k % 8 * 32 + j) := by unfold chE; rw [← ec]
    rw [es, ech]
    by_cases c : ocC C cell (k % 8 * 32 + j) = C o (st + j)
    · rw [if_pos c, if_neg (show ¬ (ocC C cell (k % 8 * 32 + j) != C o (st + j)) = true by simp [c]), show nI j + (1 : Int32) = nI (j + 1) from nI_add j 1]
      exact ih (j + 1) f (by omega) (by omega)
    · rw [if_neg c, if_pos (show (ocC C cell (k % 8 * 32 + j) != C o (st + j)) = true by simp [c]), if_neg (by omega)]
      obtain ⟨f, rfl⟩ : ∃ q, f = q + 1 := ⟨f - 1, by omega⟩
      unfold L_X8_find_104 J_X8_find_152
      rw [ltb_def, if_pos (show (-1 : Int32) < 0 by decide), if_neg (fun r => by
        have : ¬ nI l < 0 := nI_pos (by omega)
        rw [← r] at this
        exact this (by decide)), ltb_def]
theorem fnd41 (h : CA b0 σ C) (hc : ci C) {o len : Nat} (ho : isX o len) {d st l all : Nat} (hd : d < 64) (hb : ∀ i, i < l → C o (st + i) < 128) (h1 : 1 ≤ l) (hl : l ≤ 28) (hst : st + l ≤ len) (hall : all ≤ 8512) (hu : 100 ≤ fu) : ∀ m k f cell, k + m = all → m < f → cell < 2048 → (k % 8 ≠ 0 → cell = clE C d k) → L_X8_find_41 b0 fu f (b0 + 18) (nI d) (b0 + o) (nI st) (nI l) (nI all) (nI cell) (nI k) σ = some (if sr (fE C d o st l) k m = all then -1 else nI (sr (fE C d o st l) k m), σ) := by
  have L := h.lay
  intro m
  induction m with
  | zero =>
    intro k f cell hk hf hce hcl
    obtain ⟨f, rfl⟩ : ∃ q, f = q + 1 := ⟨f - 1, by omega⟩
    unfold L_X8_find_41
    rw [ltb_def, if_l (by omega) (by omega), if_pos (by omega), if_pos (show sr (fE C d o st l) k 0 = all from (by show k = all; omega))]
  | succ m ih =>
    intro k f cell hk hf hce hcl
    obtain ⟨f, rfl⟩ : ∃ q, f = q + 1 := ⟨f - 1, by omega⟩
    have k8 : k % 8 < 8 := Nat.mod_lt _ (by omega)
    have body : ∀ ce, ce < 2048 → ce = clE C d k → J_X8_find_78 b0 fu (L_X8_find_41 b0 fu f) (b0 + 18) (nI d) (b0 + o) (nI st) (nI l) (nI all) (nI ce) (nI k) (nI (k % 8 * 32)) σ = some (if sr (fE C d o st l) k (m + 1) = all then -1 else nI (sr (fE C d o st l) k (m + 1)), σ) := by
      intro ce hce2 ece
      have nxt : L_X8_find_41 b0 fu f (b0 + 18) (nI d) (b0 + o) (nI st) (nI l) (nI all) (nI ce) (nI k + Int32.ofInt 1) σ = some (if sr (fE C d o st l) (k + 1) m = all then -1 else nI (sr (fE C d o st l) (k + 1) m), σ) := by
        rw [ofi]
        refine ih (k + 1) f ce (by omega) (by omega) hce2 (fun q => ?_)
        rw [ece]
        unfold clE
        rw [show (k + 1) / 8 = k / 8 by omega]
      have eln : ocC C ce (k % 8 * 32 + 28) = lnE C d k := by rw [ece]; rfl
      have b2 := oc_lt C ce (k % 8 * 32 + 28)
      have es : sr (fE C d o st l) k (m + 1) = if fE C d o st l k = true then k else sr (fE C d o st l) (k + 1) m := rfl
      unfold J_X8_find_78 J_X8_find_102
      rw [ckC_18 L, osm_p (rfC_18_0 L), ckC_10 L, show nI (k % 8 * 32) + (28 : Int32) = nI (k % 8 * 32 + 28) from nI_add _ 28, octet_c h hc (by omega) (by omega), cll_some, if_e (by omega) (by omega), eln, es]
      by_cases c : lnE C d k = l
      · rw [if_pos c]
        have := fnd104 (fu := fu) (rc := L_X8_find_41 b0 fu f) (all := all) h hc ho hb hl hst hce2 ece hu l 0 fu (by omega) (by omega)
        rw [show (0 : Int32) = nI 0 from rfl, this, nxt]
        by_cases c2 : sr (fun i => chE C d k i != C o (st + i)) 0 l = l
        · rw [if_pos c2, if_pos (show fE C d o st l k = true by unfold fE; simp [c, c2]), if_neg (by omega)]
        · rw [if_neg c2, if_neg (show ¬ fE C d o st l k = true by unfold fE; simp [c2])]
      · rw [if_neg c, if_neg (show ¬ fE C d o st l k = true by unfold fE; simp [c])]
        obtain ⟨g, hg⟩ : ∃ q, fu = q + 1 := ⟨fu - 1, by omega⟩
        have : L_X8_find_104 b0 fu (L_X8_find_41 b0 fu f) fu (b0 + 18) (nI d) (b0 + o) (nI st) (nI l) (nI all) (nI ce) (nI k) (nI (k % 8 * 32)) (-1) σ = L_X8_find_41 b0 fu f (b0 + 18) (nI d) (b0 + o) (nI st) (nI l) (nI all) (nI ce) (nI k + Int32.ofInt 1) σ := by
          conv => lhs; arg 4; rw [hg]
          unfold L_X8_find_104 J_X8_find_152
          rw [ltb_def, if_pos (show (-1 : Int32) < 0 by decide), if_neg (fun r => by
            have : ¬ nI l < 0 := nI_pos (by omega)
            rw [← r] at this
            exact this (by decide)), ltb_def]
        rw [this, nxt]
    unfold L_X8_find_41
    rw [ltb_def, if_l (by omega) (by omega), if_neg (by omega), ltb_def, show nI k - nI k / (8 : Int32) * (8 : Int32) = nI (k % 8) from pk_rem (d := 8) (by omega) (by omega) (by omega), show nI (k % 8) * (32 : Int32) = nI (k % 8 * 32) from pk_mul _ 32]
    show (if nI (k % 8 * 32) = nI 0 then _ else _) = _
    rw [if_e (by omega) (by omega)]
    by_cases c : k % 8 * 32 = 0
    · have m1 : ptC C d (k / 8) % 2048 < 2048 := Nat.mod_lt _ (by omega)
      rw [if_pos c, ckC_18 L, show nI k / (8 : Int32) = nI (k / 8) from nI_dv (d := 8) (by omega) (by omega) (by omega), pointer_c h hd (by omega), cll_some, cellOf_c, cll_some]
      exact body _ m1 rfl
    · rw [if_neg c]
      exact body cell hce (hcl (by omega))
/-- the entry that has a name -/
def fnC (C : tS) (d o st l : Nat) : Nat := sr (fE C d o st l) 0 (alE C d)
theorem find_c (h : CA b0 σ C) (hc : ci C) {o len : Nat} (ho : isX o len) {d st l : Nat} (hd : d < 64) (hb : ∀ i, i < l → C o (st + i) < 128) (hst : st + l ≤ len) (hs : szC C d ≤ 272384) (hu : 10000 ≤ fu) : m_X8_find b0 fu (b0 + 18) (nI d) (b0 + o) (nI st) (nI l) σ = some (if l < 1 ∨ 28 < l ∨ fnC C d o st l = alE C d then -1 else nI (fnC C d o st l), σ) := by
  have L := h.lay
  have h74 := L.1
  obtain ⟨tk1, tk2, tk3⟩ := tx_k ho h
  have len1 : len ≤ 760 := by rcases ho with q | q | q <;> omega
  unfold m_X8_find J_X8_find_26
  show grw σ (if nI l < nI 1 then _ else if nI 28 < nI l then _ else _) = _
  rw [if_t (by omega) (by omega), if_t (by omega) (by omega)]
  by_cases c1 : l < 1
  · rw [if_pos c1, if_pos (Or.inl c1)]
    exact grw_same
  · rw [if_neg c1]
    by_cases c2 : 28 < l
    · rw [if_pos c2, if_pos (Or.inr (Or.inl c2))]
      exact grw_same
    · have ea : alE C d ≤ 8512 := by unfold alE; split <;> omega
      rw [if_neg c2, if_neg (nI_pos (by omega)), ckR_p tk1 ⟨by omega, by omega⟩, nI_sb (show l ≤ len by omega), if_l (by omega) (by omega), if_pos (by omega), ckC_18 L, entries_c h hd (by omega), cll_some]
      have := fnd41 (fu := fu) h hc ho hd hb (by omega) (by omega) hst ea (by omega) (alE C d) 0 fu 0 (by omega) (by omega) (by omega) (fun q => absurd rfl q)
      have e0 : (if kiC C d = 2 then szC C d / 32 else 0) = alE C d := rfl
      rw [e0, show (0 : Int32) = nI 0 from rfl, this]
      show grw σ (some (if fnC C d o st l = alE C d then -1 else nI (fnC C d o st l), σ)) = _
      by_cases c3 : fnC C d o st l = alE C d
      · rw [if_pos c3, if_pos (Or.inr (Or.inr c3))]
        exact grw_same
      · rw [if_neg c3, if_neg (fun r => by rcases r with r | r | r; exact c1 r; exact c2 r; exact c3 r)]
        exact grw_same
theorem pfe8 (h : CA b0 σ C) (hc : ci C) {d all : Nat} (hd : d < 64) (hall : all ≤ 8512) : ∀ m k f, k + m = all → m < f → L_X8_placeForEntry_8 b0 fu f (b0 + 18) (nI d) (nI all) (nI k) σ = some (nI (sr (fun k => lnE C d k == 0) k m), σ) := by
  have L := h.lay
  intro m
  induction m with
  | zero =>
    intro k f hk hf
    obtain ⟨f, rfl⟩ : ∃ q, f = q + 1 := ⟨f - 1, by omega⟩
    unfold L_X8_placeForEntry_8
    rw [ltb_def, if_l (by omega) (by omega), if_pos (by omega), show k = all by omega]
    rfl
  | succ m ih =>
    intro k f hk hf
    obtain ⟨f, rfl⟩ : ∃ q, f = q + 1 := ⟨f - 1, by omega⟩
    have b2 : lnE C d k < 256 := oc_lt _ _ _
    unfold L_X8_placeForEntry_8
    rw [ltb_def, if_l (by omega) (by omega), if_neg (by omega), ckC_18 L, nameLength_c h hc hd (by omega), cll_some]
    show (if nI (lnE C d k) = nI 0 then _ else _) = _
    rw [if_e (by omega) (by omega), ltb_def, ofi, ih (k + 1) f (by omega) (by omega), show sr (fun k => lnE C d k == 0) k (m + 1) = if (lnE C d k == 0) = true then k else sr (fun k => lnE C d k == 0) (k + 1) m from rfl]
    by_cases c : lnE C d k = 0
    · rw [if_pos c, if_pos (by simp [c])]
    · rw [if_neg c, if_neg (by simp [c])]
def pfE (C : tS) (d : Nat) : Nat := sr (fun k => lnE C d k == 0) 0 (alE C d)
theorem placeForEntry_c (h : CA b0 σ C) (hc : ci C) {d : Nat} (hd : d < 64) (hs : szC C d ≤ 272384) (hu : 10000 ≤ fu) : m_X8_placeForEntry b0 fu (b0 + 18) (nI d) σ = some (nI (pfE C d), σ) := by
  have ea : alE C d ≤ 8512 := by unfold alE; split <;> omega
  unfold m_X8_placeForEntry
  rw [ckC_18 h.lay, entries_c h hd (by omega), cll_some]
  have := pfe8 (fu := fu) h hc hd ea (alE C d) 0 fu (by omega) (by omega)
  unfold alE at this
  rw [show (0 : Int32) = nI 0 from rfl, this]
  exact grw_same
theorem cne11 (h : CA b0 σ C) (hc : ci C) {d all : Nat} (hd : d < 64) (hall : all ≤ 8512) : ∀ m k c f, k + m = all → m < f → c + m < 100000 → L_X8_countEntries_11 b0 fu f (b0 + 18) (nI d) (nI c) (nI all) (nI k) σ = some (nI (c + cn (fun k => lnE C d k != 0) k m), σ) := by
  have L := h.lay
  intro m
  induction m with
  | zero =>
    intro k c f hk hf hcc
    obtain ⟨f, rfl⟩ : ∃ q, f = q + 1 := ⟨f - 1, by omega⟩
    unfold L_X8_countEntries_11
    rw [ltb_def, if_l (by omega) (by omega), if_pos (by omega)]
    rfl
  | succ m ih =>
    intro k c f hk hf hcc
    obtain ⟨f, rfl⟩ : ∃ q, f = q + 1 := ⟨f - 1, by omega⟩
    have b2 : lnE C d k < 256 := oc_lt _ _ _
    have e1 : nI c + (1 : Int32) = nI (c + 1) := nI_add c 1
    have e0 : nI c + (0 : Int32) = nI c := nI_add c 0
    unfold L_X8_countEntries_11 J_X8_countEntries_33
    rw [ltb_def, if_l (by omega) (by omega), if_neg (by omega), ckC_18 L, nameLength_c h hc hd (by omega), cll_some]
    show (if nI (lnE C d k) = nI 0 then _ else _) = _
    rw [if_e (by omega) (by omega), ltb_def, ltb_def, ltb_def, ltb_def, ofi, e1, e0, ih (k + 1) (c + 1) f (by omega) (by omega) (by omega), ih (k + 1) c f (by omega) (by omega) (by omega)]
    show _ = some (nI (c + ((if (lnE C d k != 0) = true then 1 else 0) + cn (fun k => lnE C d k != 0) (k + 1) m)), σ)
    by_cases z : lnE C d k = 0
    · rw [if_pos z, if_neg (by simp [z]), Nat.zero_add]
    · rw [if_neg z, if_pos (by simp [z]), Nat.add_assoc]
def cnE (C : tS) (d : Nat) : Nat := cn (fun k => lnE C d k != 0) 0 (alE C d)
theorem countEntries_c (h : CA b0 σ C) (hc : ci C) {d : Nat} (hd : d < 64) (hs : szC C d ≤ 272384) (hu : 10000 ≤ fu) : m_X8_countEntries b0 fu (b0 + 18) (nI d) σ = some (nI (cnE C d), σ) := by
  have ea : alE C d ≤ 8512 := by unfold alE; split <;> omega
  unfold m_X8_countEntries
  rw [ckC_18 h.lay, entries_c h hd (by omega), cll_some]
  have := cne11 (fu := fu) h hc hd ea (alE C d) 0 0 fu (by omega) (by omega) (by omega)
  unfold alE at this
  rw [show (0 : Int32) = nI 0 from rfl, this, Nat.zero_add]
  exact grw_same
theorem nd16 (h : CA b0 σ C) {n fr to : Nat} (hn : n < 64) (hto : to < 1064) : ∀ m i c f, i + m = to + 1 → fr ≤ i → m < f → c + 3 * m < 100000 → L_X8_needs_16 b0 fu f (b0 + 18) (nI n) (nI fr) (nI to) (nI c) (nI i) σ = some (nI (c + neL C n fr i m), σ) := by
  have L := h.lay
  intro m
  induction m with
  | zero =>
    intro i c f hi hfr hf hcc
    obtain ⟨f, rfl⟩ : ∃ q, f = q + 1 := ⟨f - 1, by omega⟩
    unfold L_X8_needs_16
    rw [ltb_def, if_t (by omega) (by omega), if_pos (by omega)]
    rfl
  | succ m ih =>
    intro i c f hi hfr hf hcc
    obtain ⟨f, rfl⟩ : ∃ q, f = q + 1 := ⟨f - 1, by omega⟩
    have pl : ptC C n i < 18446744073709551616 := by unfold ptC nwC; split <;> exact cb_11 h _
    have tl : tbC C n i < 18446744073709551616 := by unfold tbC nwC; split <;> exact cb_11 h _
    have j123 : ∀ x, x + 3 * m < 100000 → J_X8_needs_123 b0 fu (L_X8_needs_16 b0 fu f) (b0 + 18) (nI n) (nI fr) (nI to) (nI x) (nI i) σ = some (nI (x + neL C n fr (i + 1) m), σ) := by
      intro x hx
      unfold J_X8_needs_123
      rw [ltb_def, ofi]
      exact ih (i + 1) x f (by omega) (by omega) (by omega) hx
    have j108 : ∀ x, x + 1 + 3 * m < 100000 → J_X8_needs_108 b0 fu (L_X8_needs_16 b0 fu f) (b0 + 18) (nI n) (nI fr) (nI to) (nI x) (nI i) σ = some (nI (x + (if nwC C n 10 = 0 then 1 else 0) + neL C n fr (i + 1) m), σ) := by
      intro x hx
      unfold J_X8_needs_108
      rw [ckC_18 L]
      show cll (m_X8_nodeWord b0 fu (b0 + 18) (nI n) (nI 10) σ) _ = _
      rw [nodeWord_c h hn (by omega), cll_some, lgz (nw_lt h n 10), ltb_def, ofi]
      by_cases c0 : nwC C n 10 = 0
      · rw [if_pos c0, if_pos c0, j123 (x + 1) (by omega)]
      · rw [if_neg c0, if_neg c0, j123 x (by omega), show x + 0 = x from rfl]
    have j88 : ∀ x, x + 1 + 3 * m < 100000 → J_X8_needs_88 b0 fu (L_X8_needs_16 b0 fu f) (b0 + 18) (nI n) (nI fr) (nI to) (nI x) (nI i) σ = some (nI (x + (if 40 ≤ i ∧ (i = fr ∨ i = 40) ∧ nwC C n 10 = 0 then 1 else 0) + neL C n fr (i + 1) m), σ) := by
      intro x hx
      unfold J_X8_needs_88
      show (if nI i < nI 40 then _ else if nI i = nI fr then _ else if nI i = nI 40 then _ else _) = _
      rw [if_t (by omega) (by omega), if_e (by omega) (by omega), if_e (by omega) (by omega)]
      by_cases c1 : i < 40
      · rw [if_pos c1, if_neg (show ¬ (40 ≤ i ∧ (i = fr ∨ i = 40) ∧ nwC C n 10 = 0) by omega), j123 x (by omega), show x + 0 = x from rfl]
      · rw [if_neg c1]
        by_cases c2 : i = fr
        · rw [if_pos c2, j108 x hx]
          by_cases c0 : nwC C n 10 = 0
          · rw [if_pos c0, if_pos ⟨by omega, Or.inl c2, c0⟩]
          · rw [if_neg c0, if_neg (fun r => c0 r.2.2)]
        · rw [if_neg c2]
          by_cases c3 : i = 40
          · rw [if_pos c3, j108 x hx]
            by_cases c0 : nwC C n 10 = 0
            · rw [if_pos c0, if_pos ⟨by omega, Or.inr c3, c0⟩]
            · rw [if_neg c0, if_neg (fun r => c0 r.2.2)]
          · rw [if_neg c3, if_neg (fun r => by rcases r.2.1 with q | q; exact c2 q; exact c3 q), j123 x (by omega), show x + 0 = x from rfl]
    have j61 : ∀ x w, w < 2 → x + 2 + 3 * m < 100000 → J_X8_needs_61 b0 fu (L_X8_needs_16 b0 fu f) (b0 + 18) (nI n) (nI fr) (nI to) (nI x) (nI i) (nI w) σ = some (nI (x + (if 8 ≤ i ∧ w = 1 ∧ tbC C n i = 0 then 1 else 0) + (if 40 ≤ i ∧ (i = fr ∨ i = 40) ∧ nwC C n 10 = 0 then 1 else 0) + neL C n fr (i + 1) m), σ) := by
      intro x w hw hx
      unfold J_X8_needs_61
      show (if nI i < nI 8 then _ else if nI w = nI 0 then _ else _) = _
      rw [if_t (by omega) (by omega), if_e (by omega) (by omega)]
      by_cases c1 : i < 8
      · rw [if_pos c1, if_neg (show ¬ (8 ≤ i ∧ w = 1 ∧ tbC C n i = 0) by omega), j88 x (by omega), show x + 0 = x from rfl]
      · rw [if_neg c1]
        by_cases c2 : w = 0
        · rw [if_pos c2, if_neg (show ¬ (8 ≤ i ∧ w = 1 ∧ tbC C n i = 0) by omega), j88 x (by omega), show x + 0 = x from rfl]
        · rw [if_neg c2, ckC_18 L, table_c h hn (by omega) (by omega), cll_some, lgz tl, ltb_def, ofi]
          by_cases c3 : tbC C n i = 0
          · rw [if_pos c3, if_pos ⟨by omega, by omega, c3⟩, j88 (x + 1) (by omega)]
          · rw [if_neg c3, if_neg (fun r => c3 r.2.2), j88 x (by omega), show x + 0 = x from rfl]
    have j44 : ∀ w, w < 2 → J_X8_needs_44 b0 fu (L_X8_needs_16 b0 fu f) (b0 + 18) (nI n) (nI fr) (nI to) (nI c) (nI i) (nI w) σ = some (nI (c + (if ptC C n i = 0 then 1 else 0) + (if 8 ≤ i ∧ w = 1 ∧ tbC C n i = 0 then 1 else 0) + (if 40 ≤ i ∧ (i = fr ∨ i = 40) ∧ nwC C n 10 = 0 then 1 else 0) + neL C n fr (i + 1) m), σ) := by
      intro w hw
      unfold J_X8_needs_44
      rw [ckC_18 L, pointer_c h hn (by omega), cll_some, lgz pl, ltb_def, ofi]
      by_cases c1 : ptC C n i = 0
      · rw [if_pos c1, if_pos c1, j61 (c + 1) w hw (by omega)]
      · rw [if_neg c1, if_neg c1, j61 c w hw (by omega), show c + 0 = c from rfl]
    have fin : ∀ w, w < 2 → (8 ≤ i → (w = 1 ↔ (i = fr ∨ (i - 8) % 32 = 0))) → J_X8_needs_44 b0 fu (L_X8_needs_16 b0 fu f) (b0 + 18) (nI n) (nI fr) (nI to) (nI c) (nI i) (nI w) σ = some (nI (c + neL C n fr i (m + 1)), σ) := by
      intro w hw hq
      rw [j44 w hw]
      have e : (if 8 ≤ i ∧ w = 1 ∧ tbC C n i = 0 then 1 else 0) = (if 8 ≤ i ∧ (i = fr ∨ (i - 8) % 32 = 0) ∧ tbC C n i = 0 then 1 else 0) := by
        by_cases c1 : 8 ≤ i
        · have := hq c1
          by_cases c2 : w = 1
          · by_cases c3 : tbC C n i = 0
            · rw [if_pos ⟨c1, c2, c3⟩, if_pos ⟨c1, this.mp c2, c3⟩]
            · rw [if_neg (fun r => c3 r.2.2), if_neg (fun r => c3 r.2.2)]
          · rw [if_neg (fun r => c2 r.2.1), if_neg (fun r => c2 (this.mpr r.2.1))]
        · rw [if_neg (fun r => c1 r.1), if_neg (fun r => c1 r.1)]
      rw [e]
      show some (nI _, σ) = some (nI (c + ((if ptC C n i = 0 then 1 else 0) + (if 8 ≤ i ∧ (i = fr ∨ (i - 8) % 32 = 0) ∧ tbC C n i = 0 then 1 else 0) + (if 40 ≤ i ∧ (i = fr ∨ i = 40) ∧ nwC C n 10 = 0 then 1 else 0) + neL C n fr (i + 1) m)), σ)
      rw [show ∀ a b d e : Nat, c + (a + b + d + e) = c + a + b + d + e from fun a b d e => by omega]
    unfold L_X8_needs_16 J_X8_needs_39
    rw [ltb_def, if_t (by omega) (by omega), if_neg (by omega), if_e (by omega) (by omega)]
    by_cases c1 : i = fr
    · rw [if_pos c1]
      exact fin 1 (by omega) (fun _ => ⟨fun _ => Or.inl c1, fun _ => rfl⟩)
    · rw [if_neg c1]
      by_cases c8 : 8 ≤ i
      · have e6 : nI i - (8 : Int32) = nI (i - 8) := nI_sb (b := 8) (by omega)
        have e7 : nI (i - 8) - nI (i - 8) / (32 : Int32) * (32 : Int32) = nI ((i - 8) % 32) := pk_rem (d := 32) (by omega) (by omega) (by omega)
        rw [e6, e7]
        show (if nI ((i - 8) % 32) = nI 0 then _ else _) = _
        rw [if_e (by omega) (by omega)]
        by_cases c2 : (i - 8) % 32 = 0
        · rw [if_pos c2]
          exact fin 1 (by omega) (fun _ => ⟨fun _ => Or.inr c2, fun _ => rfl⟩)
        · rw [if_neg c2]
          exact fin 0 (by omega) (fun _ => ⟨fun q => by omega, fun q => by rcases q with q | q; exact absurd q c1; exact absurd q c2⟩)
      · by_cases c2 : ((nI i - (8 : Int32)) - (nI i - (8 : Int32)) / (32 : Int32) * (32 : Int32)) = 0
        · rw [if_pos c2]
          exact fin 1 (by omega) (fun q => absurd q c8)
        · rw [if_neg c2]
          exact fin 0 (by omega) (fun q => absurd q c8)
theorem needs_c (h : CA b0 σ C) {n fr to : Nat} (hn : n < 64) (hto : to < 1064) (hf : fr ≤ to) (hu : 10000 ≤ fu) : m_X8_needs b0 fu (b0 + 18) (nI n) (nI fr) (nI to) σ = some (nI (neL C n fr fr (to + 1 - fr)), σ) := by
  unfold m_X8_needs
  rw [show (1064 : Int32) = nI 1064 from rfl, if_t (by omega) (by omega), if_pos hto]
  have := nd16 (fu := fu) h hn hto (to + 1 - fr) fr 0 fu (by omega) (Nat.le_refl _) (by omega) (by omega)
  rw [show (0 : Int32) = nI 0 from rfl, this, Nat.zero_add]
  exact grw_same
theorem hasPlaceForEntry_c (h : CA b0 σ C) (hc : ci C) {d : Nat} (hd : d < 64) (hs : szC C d ≤ 272384) (hp : pfE C d / 8 < 1064) (hu : 10000 ≤ fu) : m_X8_hasPlaceForEntry b0 fu (b0 + 18) (nI d) σ = some (nI (b2n (decide (neL C d (pfE C d / 8) (pfE C d / 8) 1 ≤ C 10 9))), σ) := by
  have L := h.lay
  have b9 := cb_10 h 9
  have nl : neL C d (pfE C d / 8) (pfE C d / 8) 1 < 10 := by
    unfold neL neL
    repeat (first | omega | split)
  unfold m_X8_hasPlaceForEntry J_X8_hasPlaceForEntry_31
  rw [ckC_18 L, placeForEntry_c h hc hd hs hu, cll_some, ltb_def, show nI (pfE C d) / (8 : Int32) = nI (pfE C d / 8) from nI_dv (d := 8) (by omega) (by omega) (by omega), ckC_18 L, needs_c h hd hp (Nat.le_refl _) hu, cll_some, ckC_18 L, osm_p (rfC_18_0 L), ckC_10 L, cf_10_9 h, show pfE C d / 8 + 1 - pfE C d / 8 = 1 by omega, if_t b9 (by omega)]
  by_cases c : neL C d (pfE C d / 8) (pfE C d / 8) 1 ≤ C 10 9
  · rw [if_neg (by omega), decide_eq_true c, show (1 : Int32) = nI 1 from rfl, ckZ_1]
    exact grw_same
  · rw [if_pos (by omega), decide_eq_false c, show (0 : Int32) = nI 0 from rfl, ckZ_0]
    exact grw_same
end FI
