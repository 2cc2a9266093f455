/-! ===== PURE: the class's Tree: storeTape, storeSame, checksum ===== -/
/-- the cell of a byte, as storeTape knows it -/
def stc (C : tS) (n p ce : Nat) : Nat := if p % 256 = 0 then ptC C n (p / 256) % 2048 else ce
def stT (n at_ : Nat) : Nat → Nat → Nat → tS → tS
  | _, 0, _, C => C
  | i, m + 1, ce, C => stT n at_ (i + 1) m (stc C n (at_ + i) ce) (soiC (sooC C (stc C n (at_ + i) ce) ((at_ + i) % 256) (C 27 i)) (stc C n (at_ + i) ce))
def sS0 (at_ x : Nat) : Nat := if x * 256 ≤ at_ then at_ - x * 256 else 0
def sS1 (at_ n x : Nat) : Nat := if at_ + n ≤ x * 256 + 256 then at_ + n - x * 256 else 256
def stS (n at_ k v : Nat) : Nat → Nat → tS → tS
  | _, 0, C => C
  | x, m + 1, C => stS n at_ k v (x + 1) m (soiC (spnC (ptC C n x % 2048) v (sS0 at_ x) (sS1 at_ k x - sS0 at_ x) C) (ptC C n x % 2048))
def ckS (C : tS) (n : Nat) : Nat → Nat → Nat → Nat
  | _, 0, s => s
  | p, m + 1, s => ckS C n (p + 1) m ((31 * s + ocC C (ptC C n (p / 256) % 2048) (p % 256)) % 4294967296)
section SX
variable {b0 fu : Nat} {σ τ : tM} {C : tS} {D : tD}
theorem st18 {n at_ k : Nat} (hn : n < 64) (hk : k ≤ 4000) (ha : at_ + k ≤ 272384) : ∀ m i ce f σ C, CM b0 σ C D → ci C → i + m = k → m < f → ce < 2048 → wp (FC b0) σ (L_X8_storeTape_18 b0 fu f (b0 + 18) (nI n) (nI at_) (nI k) (b0 + 26) (nI ce) (nI i) σ) (fun _ τ => CM b0 τ (stT n at_ i m ce C) D) := by
  intro m
  induction m with
  | zero =>
    intro i ce f σ C h hc hi hf hce
    obtain ⟨f, rfl⟩ : ∃ q, f = q + 1 := ⟨f - 1, by omega⟩
    unfold L_X8_storeTape_18
    rw [ltb_def, if_l (by omega) (by omega), if_pos (by omega)]
    exact wp_ret ((FC_good b0).1 _) h
  | succ m ih =>
    intro i ce f σ C h hc hi hf hce
    obtain ⟨f, rfl⟩ : ∃ q, f = q + 1 := ⟨f - 1, by omega⟩
    have L := h.lay
    have m0 : (at_ + i) % 256 < 256 := Nat.mod_lt _ (by omega)
    have bb := cb_27 h.ca i
    have body : ∀ c, c < 2048 → c = stc C n (at_ + i) ce → wp (FC b0) σ (J_X8_storeTape_57 b0 fu (L_X8_storeTape_18 b0 fu f) (b0 + 18) (nI n) (nI at_) (nI k) (b0 + 26) (nI c) (nI i) (nI ((at_ + i) % 256)) σ) (fun _ τ => CM b0 τ (stT n at_ i (m + 1) ce C) D) := by
      intro c hcc ec
      subst ec
      unfold J_X8_storeTape_57
      rw [ckC_18 L, osm_p (rfC_18_0 L), ckC_26 L, octet6_c h.ca (by omega), cll_some, ckC_10 L]
      refine wp_bind (FC_good b0) (setOctet_c (fu := fu) (V := C 27 i) h hc (by omega) m0 (sb_255 bb) bb) ?_
      intro _ ρ q
      rw [ckC_18 q.lay, osm_p (rfC_18_0 q.lay), ckC_10 q.lay]
      refine wp_bind (FC_good b0) (soil_c (fu := fu) (c := stc C n (at_ + i) ce) q (ci_soo hc) (by omega)) ?_
      intro _ ρ2 q2
      rw [ltb_def, ofi]
      exact ih (i + 1) _ f ρ2 _ q2 (ci_soi (ci_soo hc)) (by omega) (by omega) hcc
    unfold L_X8_storeTape_18
    rw [ltb_def, if_l (by omega) (by omega), if_neg (by omega), ltb_def, nI_add, show nI (at_ + i) - nI (at_ + i) / (256 : Int32) * (256 : Int32) = nI ((at_ + i) % 256) from pk_rem (d := 256) (by omega) (by omega) (by omega)]
    show wp (FC b0) σ (if nI ((at_ + i) % 256) = nI 0 then _ else _) _
    rw [if_e (by omega) (by omega)]
    by_cases c : (at_ + i) % 256 = 0
    · have m1 : ptC C n ((at_ + i) / 256) % 2048 < 2048 := Nat.mod_lt _ (by omega)
      rw [if_pos c, ckC_18 L, show nI (at_ + i) / (256 : Int32) = nI ((at_ + i) / 256) from nI_dv (d := 256) (by omega) (by omega) (by omega), pointer_c h.ca hn (by omega), cll_some, cellOf_c, cll_some]
      exact body _ m1 (by unfold stc; rw [if_pos c])
    · rw [if_neg c]
      exact body ce hce (by unfold stc; rw [if_neg c])
theorem storeTape_c {n at_ k : Nat} (h : CM b0 σ C D) (hc : ci C) (hn : n < 64) (hk : k ≤ 4000) (h0 : 0 < k) (ha : at_ + k ≤ 272384) (hu : 10000 ≤ fu) : wp (FC b0) σ (m_X8_storeTape b0 fu (b0 + 18) (nI n) (nI at_) (nI k) (b0 + 26) σ) (fun _ τ => CM b0 τ (stT n at_ 0 k (ptC C n (at_ / 256) % 2048) C) D) := by
  have m1 : ptC C n (at_ / 256) % 2048 < 2048 := Nat.mod_lt _ (by omega)
  refine wp_grw (FC_good b0) ?_
  rw [ckC_18 h.lay, show nI at_ / (256 : Int32) = nI (at_ / 256) from nI_dv (d := 256) (by omega) (by omega) (by omega), pointer_c h.ca hn (by omega), cll_some, cellOf_c, cll_some]
  exact st18 hn hk ha k 0 _ fu σ C h hc (by omega) (by omega) m1
theorem sm18 {n at_ k v la : Nat} (hn : n < 64) (h0 : 0 < k) (ha : at_ + k ≤ 272384) (hv : v < 256) (hla : la = (at_ + k - 1) / 256) (hu : 1000 ≤ fu) : ∀ m x f σ C, CM b0 σ C D → ci C → x + m = la + 1 → at_ / 256 ≤ x → m < f → wp (FC b0) σ (L_X8_storeSame_18 b0 fu f (b0 + 18) (nI n) (nI at_) (nI k) (nI v) (nI la) (nI x) σ) (fun _ τ => CM b0 τ (stS n at_ k v x m C) D) := by
  intro m
  induction m with
  | zero =>
    intro x f σ C h hc hx hx0 hf
    obtain ⟨f, rfl⟩ : ∃ q, f = q + 1 := ⟨f - 1, by omega⟩
    unfold L_X8_storeSame_18
    rw [ltb_def, if_t (by omega) (by omega), if_pos (by omega)]
    exact wp_ret ((FC_good b0).1 _) h
  | succ m ih =>
    intro x f σ C h hc hx hx0 hf
    obtain ⟨f, rfl⟩ : ∃ q, f = q + 1 := ⟨f - 1, by omega⟩
    have L := h.lay
    have m1 : ptC C n x % 2048 < 2048 := Nat.mod_lt _ (by omega)
    have ex : (if nI at_ - nI (x * 256) < 0 then 0 else nI at_ - nI (x * 256)) = nI (sS0 at_ x) := by
      unfold sS0
      by_cases c : x * 256 ≤ at_
      · rw [if_pos c, nI_sb c, if_neg (nI_pos (by omega))]
      · rw [if_neg c, if_pos (pk_sneg (by omega) (by omega))]
        rfl
    have ey : (if (256 : Int32) < nI (at_ + k) - nI (x * 256) then 256 else nI (at_ + k) - nI (x * 256)) = nI (sS1 at_ k x) := by
      unfold sS1
      rw [nI_sb (show x * 256 ≤ at_ + k by omega)]
      show (if nI 256 < nI (at_ + k - x * 256) then _ else _) = _
      rw [if_t (by omega) (by omega)]
      by_cases c : at_ + k ≤ x * 256 + 256
      · rw [if_neg (by omega), if_pos c]
      · rw [if_pos (by omega), if_neg c]
        rfl
    have b0' : sS0 at_ x ≤ 256 := by unfold sS0; split <;> omega
    have b1' : sS1 at_ k x ≤ 256 := by unfold sS1; split <;> omega
    unfold L_X8_storeSame_18
    rw [ltb_def, if_t (by omega) (by omega), if_neg (by omega), ckC_18 L, pointer_c h.ca hn (by omega), cll_some, cellOf_c, cll_some, ckC_18 L, osm_p (rfC_18_0 L), ckC_10 L, nI_add, show nI x * (256 : Int32) = nI (x * 256) from pk_mul x 256]
    refine wp_bind (FC_good b0) (setSpan_c (fu := fu) (v := v) (i := sS0 at_ x) (e := sS1 at_ k x) h hc (by omega) b0' b1' hv ex ey hu) ?_
    intro _ ρ q
    rw [ckC_18 q.lay, osm_p (rfC_18_0 q.lay), ckC_10 q.lay]
    refine wp_bind (FC_good b0) (soil_c (fu := fu) (c := ptC C n x % 2048) q (ci_spn _ _ _ hc) (by omega)) ?_
    intro _ ρ2 q2
    rw [ltb_def, ofi]
    exact ih (x + 1) f ρ2 _ q2 (ci_soi (ci_spn _ _ _ hc)) (by omega) (by omega) (by omega)
theorem storeSame_c {n at_ k v : Nat} (h : CM b0 σ C D) (hc : ci C) (hn : n < 64) (h0 : 0 < k) (ha : at_ + k ≤ 272384) (hv : v < 256) (hu : 10000 ≤ fu) : wp (FC b0) σ (m_X8_storeSame b0 fu (b0 + 18) (nI n) (nI at_) (nI k) (nI v) σ) (fun _ τ => CM b0 τ (stS n at_ k v (at_ / 256) ((at_ + k - 1) / 256 + 1 - at_ / 256) C) D) := by
  refine wp_grw (FC_good b0) ?_
  rw [ltb_def, ltb_def, nI_add, show nI (at_ + k) - (1 : Int32) = nI (at_ + k - 1) from nI_sb (b := 1) (by omega), show nI (at_ + k - 1) / (256 : Int32) = nI ((at_ + k - 1) / 256) from nI_dv (d := 256) (by omega) (by omega) (by omega), show nI at_ / (256 : Int32) = nI (at_ / 256) from nI_dv (d := 256) (by omega) (by omega) (by omega)]
  exact sm18 hn h0 ha hv rfl (by omega) _ (at_ / 256) fu σ C h hc (by omega) (Nat.le_refl _) (by omega)
theorem cks_lt {n : Nat} : ∀ m p s, s < 4294967296 → ckS C n p m s < 4294967296
  | 0, _, _, h => h
  | m + 1, p, s, _ => cks_lt m (p + 1) _ (Nat.mod_lt _ (by omega))
theorem ck21 {n at_ k : Nat} (h : CA b0 σ C) (hc : ci C) (hn : n < 64) (ha : at_ + k ≤ 272384) : ∀ m i ce s f, i + m = k → m < f → ce < 2048 → s < 4294967296 → ((at_ + i) % 256 ≠ 0 → 0 < m → ce = ptC C n ((at_ + i) / 256) % 2048) → L_X8_checksum_21 b0 fu f (b0 + 18) (nI n) (nI at_) (nI k) (lN s) (nI ce) (nI i) σ = some (lN (ckS C n (at_ + i) m s), σ) := by
  have L := h.lay
  intro m
  induction m with
  | zero =>
    intro i ce s f hi hf hce hs _
    obtain ⟨f, rfl⟩ : ∃ q, f = q + 1 := ⟨f - 1, by omega⟩
    unfold L_X8_checksum_21
    rw [ltb_def, if_l (by omega) (by omega), if_pos (by omega)]
    rfl
  | succ m ih =>
    intro i ce s f hi hf hce hs hcl
    obtain ⟨f, rfl⟩ : ∃ q, f = q + 1 := ⟨f - 1, by omega⟩
    have m0 : (at_ + i) % 256 < 256 := Nat.mod_lt _ (by omega)
    have m1 : ptC C n ((at_ + i) / 256) % 2048 < 2048 := Nat.mod_lt _ (by omega)
    have body : J_X8_checksum_60 b0 fu (L_X8_checksum_21 b0 fu f) (b0 + 18) (nI n) (nI at_) (nI k) (lN s) (nI (ptC C n ((at_ + i) / 256) % 2048)) (nI i) (nI ((at_ + i) % 256)) σ = some (lN (ckS C n (at_ + i) (m + 1) s), σ) := by
      have b2 := oc_lt C (ptC C n ((at_ + i) / 256) % 2048) ((at_ + i) % 256)
      unfold J_X8_checksum_60
      rw [ckC_18 L, osm_p (rfC_18_0 L), ckC_10 L, octet_c h hc (by omega) m0, cll_some, ltb_def, ltb_def, ofi, nI_l (by omega), show (31 : Int64) * lN s = lN (31 * s) from lN_mul 31 s, lN_add, show lN (31 * s + ocC C (ptC C n ((at_ + i) / 256) % 2048) ((at_ + i) % 256)) &&& (4294967295 : Int64) = lN ((31 * s + ocC C (ptC C n ((at_ + i) / 256) % 2048) ((at_ + i) % 256)) % 4294967296) from wb_mask (k := 32) (by omega) (by omega)]
      refine ih (i + 1) _ _ f (by omega) (by omega) m1 (Nat.mod_lt _ (by omega)) (fun q1 q2 => ?_)
      rw [show (at_ + (i + 1)) / 256 = (at_ + i) / 256 by omega]
    unfold L_X8_checksum_21
    rw [ltb_def, if_l (by omega) (by omega), if_neg (by omega), ltb_def, nI_add, show nI (at_ + i) - nI (at_ + i) / (256 : Int32) * (256 : Int32) = nI ((at_ + i) % 256) from pk_rem (d := 256) (by omega) (by omega) (by omega)]
    show (if nI ((at_ + i) % 256) = nI 0 then _ else _) = _
    rw [if_e (by omega) (by omega)]
    by_cases c : (at_ + i) % 256 = 0
    · rw [if_pos c, ckC_18 L, show nI (at_ + i) / (256 : Int32) = nI ((at_ + i) / 256) from nI_dv (d := 256) (by omega) (by omega) (by omega), pointer_c h hn (by omega), cll_some, cellOf_c, cll_some]
      exact body
    · rw [if_neg c, hcl c (by omega)]
      exact body
theorem checksum_c {n at_ k : Nat} (h : CA b0 σ C) (hc : ci C) (hn : n < 64) (ha : at_ + k ≤ 272384) (h1 : at_ < 272384) (hu : 20000 ≤ fu) (hk : k ≤ 16384) : m_X8_checksum b0 fu (b0 + 18) (nI n) (nI at_) (nI k) σ = some (lN (ckS C n at_ k 0), σ) := by
  have m1 : ptC C n (at_ / 256) % 2048 < 2048 := Nat.mod_lt _ (by omega)
  unfold m_X8_checksum
  have := ck21 (fu := fu) h hc hn ha k 0 (ptC C n (at_ / 256) % 2048) 0 fu (by omega) (by omega) m1 (by omega) (fun _ _ => rfl)
  rw [ckC_18 h.lay, show nI at_ / (256 : Int32) = nI (at_ / 256) from nI_dv (d := 256) (by omega) (by omega) (by omega), pointer_c h hn (by omega), cll_some, cellOf_c, cll_some, show (0 : Int64) = lN 0 from rfl, show (0 : Int32) = nI 0 from rfl, this]
  exact grw_same
theorem pointer_big (h : CA b0 σ C) {n i : Nat} (hn : n < 64) (h1 : 1064 ≤ i) (hi : i < 2147483648) : m_X8_pointer b0 fu (b0 + 18) (nI n) (nI i) σ = some (lN (C 11 ((i - 8) % 32)), σ) := by
  have L := h.lay
  have m2 : (i - 8) % 32 < 32 := Nat.mod_lt _ (by omega)
  have e6 : nI i - (8 : Int32) = nI (i - 8) := nI_sb (b := 8) (by omega)
  have e7 : nI (i - 8) - nI (i - 8) / (32 : Int32) * (32 : Int32) = nI ((i - 8) % 32) := pk_rem (d := 32) (by omega) (by omega) (by omega)
  have tb : m_X8_table b0 fu (b0 + 18) (nI n) (nI i) σ = some (0, σ) := by
    unfold m_X8_table J_X8_table_23
    rw [if_neg (nI_pos (by omega)), show (64 : Int32) = nI 64 from rfl, if_l (by omega) (by omega), if_neg (by omega)]
    show grw σ (if nI i < nI 8 then _ else if nI i < nI 1064 then _ else _) = _
    rw [if_t (by omega) (by omega), if_neg (by omega), if_t (by omega) (by omega), if_neg (by omega)]
    exact grw_same
  unfold m_X8_pointer
  show grw σ (if nI 8 ≤ nI i then _ else _) = _
  rw [if_l (by omega) (by omega), if_pos (by omega), ckC_18 L, tb, cll_some, ltb_def, show ((0 : Int64).toInt32 &&& (2047 : Int32)) = nI 0 from by decide, ckC_18 L, osm_p (rfC_18_1 L), ckC_11 L, e6, e7, ix32, Nat.zero_mul, Nat.zero_add, ckI_n (by omega) (by omega), nI_cl (by omega), cd_11 h]
  exact grw_same
theorem checksum_0 {n at_ : Nat} (h : CA b0 σ C) (hn : n < 64) (ha : at_ < 2147483648) (hu : 10 ≤ fu) : m_X8_checksum b0 fu (b0 + 18) (nI n) (nI at_) 0 σ = some (lN 0, σ) := by
  have L := h.lay
  obtain ⟨f, hf⟩ : ∃ q, fu = q + 1 := ⟨fu - 1, by omega⟩
  have key : ∀ x, L_X8_checksum_21 b0 fu fu (b0 + 18) (nI n) (nI at_) 0 0 x 0 σ = some (lN 0, σ) := by
    intro x
    conv => lhs; arg 3; rw [hf]
    unfold L_X8_checksum_21
    rw [ltb_def, if_pos (by decide)]
    rfl
  unfold m_X8_checksum
  rw [ckC_18 L, show nI at_ / (256 : Int32) = nI (at_ / 256) from nI_dv (d := 256) (by omega) (by omega) (by omega)]
  by_cases c : at_ / 256 < 1064
  · rw [pointer_c h hn c, cll_some, cellOf_c, cll_some, key]
    exact grw_same
  · rw [pointer_big h hn (by omega) (by omega), cll_some, cellOf_c, cll_some, key]
    exact grw_same
end SX
