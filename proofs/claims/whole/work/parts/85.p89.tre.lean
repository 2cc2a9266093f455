/-! ===== PURE: the class's Tree: what is read ===== -/
def nwC (C : tS) (n i : Nat) : Nat := C 11 (64 + n * 16 + i)
def kiC (C : tS) (n : Nat) : Nat := nwC C n 0 % 256
def naC (C : tS) (n : Nat) : Nat := nwC C n 0 / 256 % 256
def prC (C : tS) (n : Nat) : Nat := nwC C n 0 / 65536 % 256
def szC (C : tS) (n : Nat) : Nat := nwC C n 0 / 4294967296
def tbC (C : tS) (n i : Nat) : Nat := if i < 40 then nwC C n 9 else C 11 (nwC C n 10 % 2048 * 32 + (i - 40) / 32)
def ptC (C : tS) (n i : Nat) : Nat := if i < 8 then nwC C n (1 + i) else C 11 (tbC C n i % 2048 * 32 + (i - 8) % 32)
section TR
variable {b0 fu : Nat} {σ τ : tM} {C : tS} {D : tD}
theorem lgc {a b : Int64} : lg_cmp a b = 0 ↔ a = b := by
  unfold lg_cmp
  constructor
  · intro h
    split at h
    · exact absurd h (by decide)
    · split at h
      · assumption
      · exact absurd h (by decide)
  · rintro rfl
    simp
theorem lgz {β : Type} {n : Nat} {x y : β} (h : n < 18446744073709551616) : (if lg_cmp (lN n) 0 = 0 then x else y) = if n = 0 then x else y := by
  by_cases c : n = 0
  · rw [if_pos c, if_pos (lgc.mpr (by rw [c]; rfl))]
  · rw [if_neg c, if_neg (fun r => c ?_)]
    have := lgc.mp r
    have e := congrArg (fun z : Int64 => z.toBitVec.toNat) this
    rw [show (0 : Int64) = lN 0 from rfl] at e
    simp only [wb_tn (show n < 2 ^ 64 from h), wb_tn (show 0 < 2 ^ 64 by decide)] at e
    exact e
theorem i2047 (n : Nat) : nI n &&& (2047 : Int32) = nI (n % 2048) := by
  rw [pk_and (nI n) 11 (by decide)]
  congr 1
  have : (nI n).toBitVec.toNat = n % 2 ^ 32 := rfl
  rw [this]
  omega
theorem cellOf_c (p : Nat) : m_X8_cellOf b0 fu (lN p) σ = some (nI (p % 2048), σ) := by
  unfold m_X8_cellOf
  rw [lN_i, i2047]
  exact grw_same
theorem birthOf_p {p : Nat} (hp : p < 18446744073709551616) : m_X8_birthOf b0 fu (lN p) σ = some (nI (p / 65536), σ) := by
  unfold m_X8_birthOf
  rw [show ((lN p).toUInt64 >>> (((16 : Int32)).toInt64.toUInt64 &&& Int64.toUInt64 63)).toInt64 = lN (p / 2 ^ 16) from wb_shr (k := 16) hp (by omega), lN_i]
  exact grw_same
theorem ix16 (n i : Nat) : (64 : Int32) + nI n * (16 : Int32) + nI i = nI (64 + n * 16 + i) := by
  rw [show nI n * (16 : Int32) = nI (n * 16) from pk_mul n 16, show (64 : Int32) + nI (n * 16) = nI (64 + n * 16) from nI_add 64 _, nI_add]
theorem nodeWord_c (h : CA b0 σ C) {n i : Nat} (hn : n < 64) (hi : i < 16) : m_X8_nodeWord b0 fu (b0 + 18) (nI n) (nI i) σ = some (lN (nwC C n i), σ) := by
  have L := h.lay
  unfold m_X8_nodeWord nwC
  rw [if_neg (nI_pos (by omega)), if_neg (nI_pos (by omega)), ix16, show (64 : Int32) = nI 64 from rfl, show (16 : Int32) = nI 16 from rfl, if_l (by omega) (by omega), if_neg (by omega), if_t (by omega) (by omega), if_pos hi, ckC_18 L, osm_p (rfC_18_1 L), ckC_11 L, ckI_n (by omega) (by omega), nI_cl (by omega), cd_11 h]
  exact grw_same
theorem nw_lt (h : CA b0 σ C) (n i : Nat) : nwC C n i < 18446744073709551616 := cb_11 h _
theorem kind_c (h : CA b0 σ C) {n : Nat} (hn : n < 64) : m_X8_kind b0 fu (b0 + 18) (nI n) σ = some (nI (kiC C n), σ) := by
  unfold m_X8_kind kiC
  rw [ckC_18 h.lay]
  show grw σ (cll (m_X8_nodeWord b0 fu (b0 + 18) (nI n) (nI 0) σ) _) = _
  rw [nodeWord_c h hn (by omega), cll_some, show lN (nwC C n 0) &&& (255 : Int64) = lN (nwC C n 0 % 256) from wb_mask (k := 8) (nw_lt h n 0) (by omega), lN_i]
  exact grw_same
theorem names_c (h : CA b0 σ C) {n : Nat} (hn : n < 64) : m_X8_names b0 fu (b0 + 18) (nI n) σ = some (nI (naC C n), σ) := by
  unfold m_X8_names naC
  rw [ckC_18 h.lay]
  show grw σ (cll (m_X8_nodeWord b0 fu (b0 + 18) (nI n) (nI 0) σ) _) = _
  rw [nodeWord_c h hn (by omega), cll_some, show ((lN (nwC C n 0)).toUInt64 >>> (((8 : Int32)).toInt64.toUInt64 &&& Int64.toUInt64 63)).toInt64 = lN (nwC C n 0 / 2 ^ 8) from wb_shr (k := 8) (nw_lt h n 0) (by omega), show lN (nwC C n 0 / 2 ^ 8) &&& (255 : Int64) = lN (nwC C n 0 / 2 ^ 8 % 256) from wb_mask (k := 8) (Nat.lt_of_le_of_lt (Nat.div_le_self _ _) (nw_lt h n 0)) (by omega), lN_i]
  exact grw_same
theorem parent_c (h : CA b0 σ C) {n : Nat} (hn : n < 64) : m_X8_parent b0 fu (b0 + 18) (nI n) σ = some (nI (prC C n), σ) := by
  unfold m_X8_parent prC
  rw [ckC_18 h.lay]
  show grw σ (cll (m_X8_nodeWord b0 fu (b0 + 18) (nI n) (nI 0) σ) _) = _
  rw [nodeWord_c h hn (by omega), cll_some, show ((lN (nwC C n 0)).toUInt64 >>> (((16 : Int32)).toInt64.toUInt64 &&& Int64.toUInt64 63)).toInt64 = lN (nwC C n 0 / 2 ^ 16) from wb_shr (k := 16) (nw_lt h n 0) (by omega), show lN (nwC C n 0 / 2 ^ 16) &&& (255 : Int64) = lN (nwC C n 0 / 2 ^ 16 % 256) from wb_mask (k := 8) (Nat.lt_of_le_of_lt (Nat.div_le_self _ _) (nw_lt h n 0)) (by omega), lN_i]
  exact grw_same
theorem size_c (h : CA b0 σ C) {n : Nat} (hn : n < 64) : m_X8_size b0 fu (b0 + 18) (nI n) σ = some (nI (szC C n), σ) := by
  unfold m_X8_size szC
  rw [ckC_18 h.lay]
  show grw σ (cll (m_X8_nodeWord b0 fu (b0 + 18) (nI n) (nI 0) σ) _) = _
  rw [nodeWord_c h hn (by omega), cll_some, show ((lN (nwC C n 0)).toUInt64 >>> (((32 : Int32)).toInt64.toUInt64 &&& Int64.toUInt64 63)).toInt64 = lN (nwC C n 0 / 2 ^ 32) from wb_shr (k := 32) (nw_lt h n 0) (by omega), lN_i]
  exact grw_same
theorem entries_c (h : CA b0 σ C) {n : Nat} (hn : n < 64) (hs : szC C n < 2147483648) : m_X8_entries b0 fu (b0 + 18) (nI n) σ = some (nI (if kiC C n = 2 then szC C n / 32 else 0), σ) := by
  unfold m_X8_entries J_X8_entries_31
  rw [ckC_18 h.lay]
  show grw σ (cll (m_X8_nodeWord b0 fu (b0 + 18) (nI n) (nI 0) σ) _) = _
  rw [nodeWord_c h hn (by omega), cll_some, show lN (nwC C n 0) &&& (255 : Int64) = lN (kiC C n) from wb_mask (k := 8) (nw_lt h n 0) (by omega), show ((lN (nwC C n 0)).toUInt64 >>> (((32 : Int32)).toInt64.toUInt64 &&& Int64.toUInt64 63)).toInt64 = lN (szC C n) from wb_shr (k := 32) (nw_lt h n 0) (by omega), lN_i, show nI (szC C n) / (32 : Int32) = nI (szC C n / 32) from nI_dv (d := 32) hs (by omega) (by omega)]
  have k1 : kiC C n < 256 := Nat.mod_lt _ (by omega)
  by_cases c : kiC C n = 2
  · rw [if_pos c, if_pos (lgc.mpr (by rw [c]; rfl))]
    exact grw_same
  · have n2 : ¬ lg_cmp (lN (kiC C n)) 2 = 0 := fun r => c ((pk_lEQ (a := kiC C n) (b := 2) (by omega) (by omega)).mp (lgc.mp r))
    rw [if_neg c, if_neg n2]
    exact grw_same
theorem table_c (h : CA b0 σ C) {n i : Nat} (hn : n < 64) (h8 : 8 ≤ i) (hi : i < 1064) : m_X8_table b0 fu (b0 + 18) (nI n) (nI i) σ = some (lN (tbC C n i), σ) := by
  have L := h.lay
  have e5 : (64 : Int32) + nI n * (16 : Int32) = nI (64 + n * 16) := by rw [show nI n * (16 : Int32) = nI (n * 16) from pk_mul n 16]; exact nI_add 64 _
  unfold m_X8_table tbC
  rw [if_neg (nI_pos (by omega)), ltb_def, e5, show (64 : Int32) = nI 64 from rfl, if_l (by omega) (by omega), if_neg (by omega)]
  show grw σ (if nI i < nI 8 then _ else if nI i < nI 1064 then (if nI 40 ≤ nI i then _ else _) else _) = _
  rw [if_t (by omega) (by omega), if_neg (by omega), if_t (by omega) (by omega), if_pos hi, if_l (by omega) (by omega), ckC_18 L, osm_p (rfC_18_1 L), ckC_11 L]
  by_cases c : i < 40
  · rw [if_neg (by omega), if_pos c, ckC_18 L, osm_p (rfC_18_1 L), ckC_11 L, show nI (64 + n * 16) + (9 : Int32) = nI (64 + n * 16 + 9) from nI_add _ 9, ckI_n (by omega) (by omega), nI_cl (by omega), cd_11 h]
    exact grw_same
  · have m1 : nwC C n 10 % 2048 < 2048 := Nat.mod_lt _ (by omega)
    have e6 : nI i - (40 : Int32) = nI (i - 40) := nI_sb (b := 40) (by omega)
    have e7 : nI (i - 40) / (32 : Int32) = nI ((i - 40) / 32) := nI_dv (d := 32) (by omega) (by omega) (by omega)
    rw [if_pos (by omega), if_neg c, show nI (64 + n * 16) + (10 : Int32) = nI (64 + n * 16 + 10) from nI_add _ 10, ckI_n (by omega) (by omega), nI_cl (by omega), cd_11 h, lN_i, i2047, ltb_def, osm_p (rfC_18_1 L), ckC_11 L, e6, e7, ix32]
    show grw σ (ckI (nI (nwC C n 10 % 2048 * 32 + (i - 40) / 32)) 65536 _) = _
    rw [ckI_n (by omega) (by omega)]
    show grw σ (some (tL σ (b0 + 11) (nI (nwC C n 10 % 2048 * 32 + (i - 40) / 32)).toNatClampNeg, σ)) = _
    rw [nI_cl (by omega), cd_11 h]
    exact grw_same
theorem pointer_c (h : CA b0 σ C) {n i : Nat} (hn : n < 64) (hi : i < 1064) : m_X8_pointer b0 fu (b0 + 18) (nI n) (nI i) σ = some (lN (ptC C n i), σ) := by
  have L := h.lay
  unfold m_X8_pointer J_X8_pointer_22 ptC
  show grw σ (if nI 8 ≤ nI i then _ else if (0 : Int32) ≤ nI i then _ else _) = _
  rw [if_l (by omega) (by omega), if_pos (Int32.not_lt.mp (nI_pos (by omega)))]
  by_cases c : i < 8
  · rw [if_neg (by omega), if_pos c, ckC_18 L, show (1 : Int32) + nI i = nI (1 + i) from nI_add 1 i, nodeWord_c h hn (by omega), cll_some]
    exact grw_same
  · have m1 : tbC C n i % 2048 < 2048 := Nat.mod_lt _ (by omega)
    have m2 : (i - 8) % 32 < 32 := Nat.mod_lt _ (by omega)
    have e6 : nI i - (8 : Int32) = nI (i - 8) := nI_sb (b := 8) (by omega)
    have e7 : nI (i - 8) - nI (i - 8) / (32 : Int32) * (32 : Int32) = nI ((i - 8) % 32) := pk_rem (d := 32) (by omega) (by omega) (by omega)
    rw [if_pos (by omega), if_neg c, ckC_18 L, table_c h hn (by omega) hi, cll_some, lN_i, i2047, ltb_def, ckC_18 L, osm_p (rfC_18_1 L), ckC_11 L, e6, e7, ix32, ckI_n (by omega) (by omega), nI_cl (by omega), cd_11 h]
    exact grw_same
theorem octAt (h : CA b0 σ C) (hc : ci C) {n i w : Nat} (hn : n < 64) (hi : i < 1064) (hw : w < 256) : cll (m_X8_pointer b0 fu (b0 + 18) (nI n) (nI i) σ) (fun v5 ρ6 => cll (m_X8_cellOf b0 fu v5 ρ6) (fun v8 ρ9 => ckO b0 ρ9 (b0 + 10) 5 (cll (m_X5_octet b0 fu (b0 + 10) v8 (nI w) ρ9) (fun v13 ρ14 => some (v13, ρ14))))) = some (nI (ocC C (ptC C n i % 2048) w), σ) := by
  have m1 : ptC C n i % 2048 < 2048 := Nat.mod_lt _ (by omega)
  rw [pointer_c h hn hi, cll_some, cellOf_c, cll_some, ckC_10 h.lay, octet_c h hc (by omega) hw, cll_some]
theorem enx {k w : Nat} (hk : k < 2147483648) : (nI k - nI k / (8 : Int32) * (8 : Int32)) * (32 : Int32) + nI w = nI (k % 8 * 32 + w) := by
  rw [show nI k - nI k / (8 : Int32) * (8 : Int32) = nI (k % 8) from pk_rem (d := 8) hk (by omega) (by omega), ix32]
theorem nameLength_c (h : CA b0 σ C) (hc : ci C) {n k : Nat} (hn : n < 64) (hk : k / 8 < 1064) : m_X8_nameLength b0 fu (b0 + 18) (nI n) (nI k) σ = some (nI (ocC C (ptC C n (k / 8) % 2048) (k % 8 * 32 + 28)), σ) := by
  have L := h.lay
  unfold m_X8_nameLength
  rw [ckC_18 L, osm_p (rfC_18_0 L), show nI k / (8 : Int32) = nI (k / 8) from nI_dv (d := 8) (by omega) (by omega) (by omega)]
  have e := enx (k := k) (w := 28) (by omega)
  rw [show nI k / (8 : Int32) = nI (k / 8) from nI_dv (d := 8) (by omega) (by omega) (by omega)] at e
  have e : (nI k - nI (k / 8) * (8 : Int32)) * (32 : Int32) + (28 : Int32) = nI (k % 8 * 32 + 28) := e
  rw [e, octAt h hc hn hk (by omega)]
  exact grw_same
theorem nameOctet_c (h : CA b0 σ C) (hc : ci C) {n k i : Nat} (hn : n < 64) (hk : k / 8 < 1064) (hi : i < 32) : m_X8_nameOctet b0 fu (b0 + 18) (nI n) (nI k) (nI i) σ = some (nI (ocC C (ptC C n (k / 8) % 2048) (k % 8 * 32 + i)), σ) := by
  have L := h.lay
  unfold m_X8_nameOctet
  have e := enx (k := k) (w := i) (by omega)
  rw [e, ckC_18 L, osm_p (rfC_18_0 L), show nI k / (8 : Int32) = nI (k / 8) from nI_dv (d := 8) (by omega) (by omega) (by omega), octAt h hc hn hk (by omega)]
  exact grw_same
theorem nodeAt_c (h : CA b0 σ C) (hc : ci C) {n k : Nat} (hn : n < 64) (hk : k / 8 < 1064) : m_X8_nodeAt b0 fu (b0 + 18) (nI n) (nI k) σ = some (nI (ocC C (ptC C n (k / 8) % 2048) (k % 8 * 32 + 29)), σ) := by
  have L := h.lay
  unfold m_X8_nodeAt
  rw [ckC_18 L, osm_p (rfC_18_0 L), show nI k / (8 : Int32) = nI (k / 8) from nI_dv (d := 8) (by omega) (by omega) (by omega)]
  have e := enx (k := k) (w := 29) (by omega)
  rw [show nI k / (8 : Int32) = nI (k / 8) from nI_dv (d := 8) (by omega) (by omega) (by omega)] at e
  have e : (nI k - nI (k / 8) * (8 : Int32)) * (32 : Int32) + (29 : Int32) = nI (k % 8 * 32 + 29) := e
  rw [e, octAt h hc hn hk (by omega)]
  exact grw_same
theorem octetAt_c (h : CA b0 σ C) (hc : ci C) {n p : Nat} (hn : n < 64) (hp : p / 256 < 1064) : m_X8_octetAt b0 fu (b0 + 18) (nI n) (nI p) σ = some (nI (ocC C (ptC C n (p / 256) % 2048) (p % 256)), σ) := by
  have L := h.lay
  have e1 : nI p - nI p / (256 : Int32) * (256 : Int32) = nI (p % 256) := pk_rem (d := 256) (by omega) (by omega) (by omega)
  unfold m_X8_octetAt
  rw [ckC_18 L, osm_p (rfC_18_0 L), e1, show nI p / (256 : Int32) = nI (p / 256) from nI_dv (d := 256) (by omega) (by omega) (by omega), octAt h hc hn hp (Nat.mod_lt _ (by omega))]
  exact grw_same
theorem textOctet_c (h : CA b0 σ C) (hc : ci C) {n i : Nat} (hn : n < 64) (hi : i < 120) : m_X8_textOctet b0 fu (b0 + 18) (nI n) (nI i) σ = some (nI (ocC C (2 + n / 2) ((n % 2 * 16 + 1) * 8 + i)), σ) := by
  have L := h.lay
  have e1 : nI n &&& (1 : Int32) = nI (n % 2) := pk_andN (by omega) 1 (by decide)
  have e2 : (nI (n % 2) * (16 : Int32) + (1 : Int32)) * (8 : Int32) + nI i = nI ((n % 2 * 16 + 1) * 8 + i) := by
    rw [show nI (n % 2) * (16 : Int32) = nI (n % 2 * 16) from pk_mul _ 16, show nI (n % 2 * 16) + (1 : Int32) = nI (n % 2 * 16 + 1) from nI_add _ 1, show nI (n % 2 * 16 + 1) * (8 : Int32) = nI ((n % 2 * 16 + 1) * 8) from pk_mul _ 8, nI_add]
  unfold m_X8_textOctet
  rw [ckC_18 L, osm_p (rfC_18_0 L), ckC_10 L, e1, e2, show nI n / (2 : Int32) = nI (n / 2) from nI_dv (d := 2) (by omega) (by omega) (by omega), show (2 : Int32) + nI (n / 2) = nI (2 + n / 2) from nI_add 2 _, octet_c h hc (by omega) (by omega), cll_some]
  exact grw_same
end TR
