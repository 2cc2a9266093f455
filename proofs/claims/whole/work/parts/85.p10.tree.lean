/-! ===== PURE: the reference's blocks ===== -/
def nd (A : Nat → Nat → Nat) (n w : Nat) : Nat := A 36 (n * 95 + w)
def pt (A : Nat → Nat → Nat) (r k : Nat) : Nat := A 36 (6080 + r * 274 + (2 + k))
def leafA (A : Nat → Nat → Nat) (n i : Nat) : Nat := if i < 40 then nd A n 93 else if nd A n 94 = 0 then 0 else pt A (nd A n 94 - 1) ((i - 40) / 32)
def plA (i : Nat) : Nat := if i < 40 then i - 8 else (i - 40) % 32
def hasA (A : Nat → Nat → Nat) (n i : Nat) : Nat := if i < 8 then nd A n (85 + i) else if leafA A n i = 0 then 0 else pt A (leafA A n i - 1) (plA i)
section RT
variable {b0 fu : Nat} {σ τ : tM} {A : Nat → Nat → Nat} {N : Nat} {J : tJ}
theorem nd_le (h : okT A) {n w : Nat} (hn : n < 64) (h1 : 85 ≤ w) (h2 : w < 95) : nd A n w ≤ 2000 := by
  have := h (n * 95 + w)
  rw [bT_n hn h2] at this
  unfold nd
  unfold bN at this
  repeat (first | omega | split at this)
theorem pt_le (h : okT A) (r : Nat) {k : Nat} (hk : k < 32) : pt A r k ≤ 2000 := by
  have := h (6080 + r * 274 + (2 + k))
  rw [bT_r r (by omega)] at this
  unfold pt
  unfold bR at this
  repeat (first | omega | split at this)
theorem leaf_le (h : okT A) {n i : Nat} (hn : n < 64) (hi : i < 1064) : leafA A n i ≤ 2000 := by
  unfold leafA
  split
  · exact nd_le h hn (by omega) (by omega)
  · split
    · omega
    · exact pt_le h _ (by omega)
theorem plA_lt {i : Nat} (h8 : 8 ≤ i) : plA i < 32 := by unfold plA; split <;> omega
theorem has_le (h : okT A) {n i : Nat} (hn : n < 64) (hi : i < 1064) : hasA A n i ≤ 2000 := by
  unfold hasA
  split
  · exact nd_le h hn (by omega) (by omega)
  · split
    · omega
    · exact pt_le h _ (plA_lt (by omega))
theorem leafOf_eq (h : RA b0 σ A) (hT : okT A) {n i : Nat} (hn : n < 64) (hi : i < 1064) : m_X12_leafOf b0 fu (b0 + 35) (nI n) (nI i) σ = some (nI (leafA A n i), σ) := by
  have L := h.lay
  have h1 := nd_le hT (n := n) (w := 94) hn (by omega) (by omega)
  unfold m_X12_leafOf
  simp (disch := first | assumption | omega) only [lits, nI_add, pk_mul, ofi, nI_cl, nI_eqP, nI_leP, nI_ltP, nI_dv, nI_md, nI_sb, ckI_n, ckR_35 L]
  by_cases e : i < 40
  · rw [if_neg (by omega), node_eq h hn (by omega), cll_some, grw_same]
    simp [leafA, e, nd]
  · rw [if_pos (by omega), node_eq h hn (by omega), cll_some]
    show grw σ (if nI (nd A n 94) = nI 0 then _ else _) = _
    rw [if_e (by omega) (by omega)]
    by_cases z : nd A n 94 = 0
    · rw [if_pos z]
      simp only [J_X12_leafOf_44, grw_same]
      simp [leafA, e, z]
    · rw [if_neg z, ckR_35 L]
      show grw σ (cll (m_X12_pointer b0 fu (b0 + 35) (nI (nd A n 94) - nI 1) (nI ((i - 40) / 32)) σ) _) = _
      rw [nI_sb (by omega), pointer_eq h (by omega) (by omega), cll_some]
      simp only [J_X12_leafOf_44, grw_same]
      simp [leafA, e, z, pt]
theorem placeOf_eq {i : Nat} (h8 : 8 ≤ i) (hi : i < 1064) : m_X12_placeOf b0 fu (nI i) σ = some (nI (plA i), σ) := by
  unfold m_X12_placeOf
  simp (disch := first | assumption | omega) only [lits, nI_add, pk_mul, ofi, nI_cl, nI_eqP, nI_leP, nI_ltP, nI_dv, nI_md, nI_sb, ckI_n, J_X12_placeOf_20]
  unfold plA
  by_cases e : i < 40
  · rw [if_neg (by omega), if_pos e, grw_same]
  · rw [if_pos (by omega), if_neg e, grw_same, show i - 40 - (i - 40) / 32 * 32 = (i - 40) % 32 by omega]
theorem has_eq (h : RA b0 σ A) (hT : okT A) {n i : Nat} (hn : n < 64) (hi : i < 1064) : m_X12_has b0 fu (b0 + 35) (nI n) (nI i) σ = some (nI (hasA A n i), σ) := by
  have L := h.lay
  have h1 := leaf_le hT (n := n) (i := i) hn hi
  unfold m_X12_has
  simp (disch := first | assumption | omega) only [lits, nI_add, pk_mul, ofi, nI_cl, nI_eqP, nI_leP, nI_ltP, nI_dv, nI_md, nI_sb, ckI_n, ckR_35 L]
  by_cases e : i < 8
  · rw [if_neg (by omega), node_eq h hn (by omega), cll_some, grw_same]
    simp [hasA, e, nd]
  · rw [if_pos (by omega), leafOf_eq h hT hn hi, cll_some, if_e (by omega) (by omega)]
    by_cases z : leafA A n i = 0
    · rw [if_pos z]
      simp only [J_X12_has_42, grw_same]
      simp [hasA, e, z]
    · rw [if_neg z, placeOf_eq (by omega) hi, cll_some, ckR_35 L, nI_sb (by omega), pointer_eq h (by omega) (plA_lt (by omega)), cll_some]
      simp only [J_X12_has_42, grw_same]
      simp [hasA, e, z, pt]
/-- a node's place set -/
def setN (A : Nat → Nat → Nat) (n w v : Nat) : Nat → Nat → Nat := up2 (up2 A 36 (n * 95 + w) v) 51 (2 + n / 2) 1
theorem putNode_wp (h : RM b0 J σ A N) {n w v : Nat} (hN : N < 65536) (hn : n < 64) (hw : w < 95) (hv : v < bN w) : wp (FR b0) σ (m_X12_putNode b0 fu (b0 + 35) (nI n) (nI w) (nI v) σ) (fun _ τ => RM b0 J τ (setN A n w v) (N + 1)) := by
  have L := h.ra.lay
  refine wp_grw (FR_good b0) ?_
  simp (disch := first | assumption | omega) only [lits, nI_add, pk_mul, ofi, nI_cl, nI_eqP, nI_leP, nI_ltP, nI_dv, nI_md, nI_sb, ckI_n, ckR_35 L]
  refine wp_bind (FR_good b0) (put_wp (N' := N + 1) h hN (by omega) (by rw [bT_n hn hw]; exact hv) (Or.inl (by rw [usd_oth (by omega)]; omega))) fun _ ρ h1 => ?_
  rw [ckR_35 h1.ra.lay]
  refine wp_bind (FR_good b0) (tou_wp h1 (by omega)) fun _ ρ2 h2 => ?_
  exact wp_ret ((FR_good b0).1 _) h2
/-- a pointer block's place set -/
def setP (A : Nat → Nat → Nat) (r k v : Nat) : Nat → Nat → Nat := up2 (up2 A 36 (6080 + r * 274 + (2 + k)) v) 51 (34 + A 35 6 + r) 1
theorem putPointer_wp (h : RM b0 J σ A N) {r k v : Nat} (hN : N < 65536) (hr : r < 2000) (hk : k < 32) (hv : v < 2001) (hl : A 35 6 ≤ 4096) : wp (FR b0) σ (m_X12_putPointer b0 fu (b0 + 35) (nI r) (nI k) (nI v) σ) (fun _ τ => RM b0 J τ (setP A r k v) (N + 1)) := by
  have L := h.ra.lay
  refine wp_grw (FR_good b0) ?_
  simp (disch := first | assumption | omega) only [lits, nI_add, pk_mul, ofi, nI_cl, nI_eqP, nI_leP, nI_ltP, nI_dv, nI_md, nI_sb, ckI_n, room_eq, cll_some, ckR_35 L]
  refine wp_bind (FR_good b0) (put_wp (N' := N + 1) h hN (by omega) (by rw [bT_r r (by omega)]; unfold bR; repeat (first | omega | split)) (Or.inl (by rw [usd_oth (by omega)]; omega))) fun _ ρ h1 => ?_
  rw [ckR_35 h1.ra.lay, numberOf_eq h1.ra, cll_some, ckR_35 h1.ra.lay]
  have e : up2 A 36 (6080 + r * 274 + (2 + k)) v 35 6 = A 35 6 := up2_o (by decide)
  rw [e]
  refine wp_bind (FR_good b0) (tou_wp h1 (by omega)) fun _ ρ2 h2 => ?_
  exact wp_ret ((FR_good b0).1 _) h2
end RT
