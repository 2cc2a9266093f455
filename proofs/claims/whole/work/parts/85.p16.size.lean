/-! ===== PURE: the reference sets sizes, frees nodes, second half ===== -/
section RS2
variable {b0 fu : Nat} {σ τ : tM} {A : Nat → Nat → Nat} {N : Nat} {J : tJ}
theorem ss69n {n size was k : Nat} (h : RM b0 J σ A N) (hN : N + 1 < 65536) (hu : 3000 ≤ fu) (hn : n < 64) (hs : size < 272385) (hw : was < 272385) (hne : was ≠ size) (hk : k < 256) (ho : size < was → ddOk n size ((was - 1) / 256 + 1) A) : wp (FR b0) σ (L_X12_setSize_69 b0 fu fu (b0 + 35) (nI n) (nI size) (nI was) (-1) (nI k) σ) (fun _ τ => RM b0 J τ (if was < size then A else dd n size ((was - 1) / 256 + 1) A) N) := by
  obtain ⟨f, hf⟩ : ∃ q, fu = q + 1 := ⟨fu - 1, by omega⟩
  have e : ∀ q, L_X12_setSize_69 b0 fu (q + 1) (b0 + 35) (nI n) (nI size) (nI was) (-1) (nI k) σ = J_X12_setSize_128 b0 fu (b0 + 35) (nI n) (nI size) (nI was) σ := fun q => by
    unfold L_X12_setSize_69
    simp only [ltb_def]
    rw [show (256 : Int32) = nI 256 from rfl, if_l (by omega) (by omega), if_neg (by omega), if_pos (by decide)]
  have e2 : L_X12_setSize_69 b0 fu fu (b0 + 35) (nI n) (nI size) (nI was) (-1) (nI k) σ = J_X12_setSize_128 b0 fu (b0 + 35) (nI n) (nI size) (nI was) σ := by
    conv => lhs; rw [show L_X12_setSize_69 b0 fu fu = L_X12_setSize_69 b0 fu (f + 1) by rw [← hf]]
    exact e f
  rw [e2]
  exact ss128 h hN hu hn hs hw hne ho
theorem node_nd (h : RA b0 σ A) {n w : Nat} (hn : n < 64) (hw : w < 95) : m_X12_node b0 fu (b0 + 35) (nI n) (nI w) σ = some (nI (nd A n w), σ) := node_eq h hn hw
theorem sz_lt (h : okT A) {n : Nat} (hn : n < 64) : nd A n 1 < 272385 := by
  have := h (n * 95 + 1)
  rw [bT_n hn (by omega)] at this
  exact this
theorem setSize_wp {n size : Nat} (h : RM b0 J σ A N) (hN : N + 2 < 65536) (hu : 3000 ≤ fu) (hn : n < 64) (hs : size < 272385)
    (ho : size < nd A n 1 → ddOk n size ((nd A n 1 - 1) / 256 + 1) (zb (up2 (setN A n 1 size) 50 n 1) n size)) : wp (FR b0) σ (m_X12_setSize b0 fu (b0 + 35) (nI n) (nI size) σ) (fun _ τ => RM b0 J τ (szA A n size) (N + 1)) := by
  have L := h.ra.lay
  have hw := sz_lt h.ok hn
  refine wp_grw (FR_good b0) ?_
  rw [ckR_35 L]
  show wp (FR b0) σ (cll (m_X12_node b0 fu (b0 + 35) (nI n) (nI 1) σ) _) _
  rw [node_nd h.ra hn (by omega), cll_some, ckR_35 L]
  show wp (FR b0) σ (cll (m_X12_putNode b0 fu (b0 + 35) (nI n) (nI 1) (nI size) σ) _) _
  refine wp_bind (FR_good b0) (putNode_wp h (by omega) hn (by omega) hs) fun v ρ h1 => ?_
  have L1 := h1.ra.lay
  show wp (FR b0) ρ (if nI (nd A n 1) = nI size then _ else _) _
  rw [if_e (by omega) (by omega)]
  unfold szA
  by_cases e : nd A n 1 = size
  · rw [if_pos e, if_pos e]
    exact wp_ret ((FR_good b0).1 _) h1
  · rw [if_neg e, if_neg e, ckR_35 L1, osm_p (rfR_35_25 L1), ckR_50 L1, ckI_n hn (by omega), nI_cl (by omega), ltb_def]
    have hc : RM b0 J (sI ρ (b0 + 50) n (vp_nar .boolean (1 : Int32))) (up2 (setN A n 1 size) 50 n 1) (N + 1) := RM_fix (x := 1) h1 (o := 50) (j := n) rfl (by decide) rfl (by decide)
    refine wp_from (σ1 := sI ρ (b0 + 50) n (vp_nar .boolean (1 : Int32))) (FR_good b0) (FR_sI (refO_f 50 (by omega) (by omega))) ?_
    have el : (if nI size < nI (nd A n 1) then nI size else nI (nd A n 1) : Int32) = nI (min (nd A n 1) size) := by
      rw [if_t (by omega) (by omega)]
      by_cases q : size < nd A n 1
      · rw [if_pos q, show min (nd A n 1) size = size by omega]
      · rw [if_neg q, show min (nd A n 1) size = nd A n 1 by omega]
    show wp (FR b0) _ (if nI 272384 ≤ (if nI size < nI (nd A n 1) then nI size else nI (nd A n 1) : Int32) then J_X12_setSize_59 b0 fu (b0 + 35) (nI n) (nI size) (nI (nd A n 1)) (if nI size < nI (nd A n 1) then nI size else nI (nd A n 1) : Int32) (-1) (sI ρ (b0 + 50) n (vp_nar .boolean (1 : Int32))) else cll (m_X12_has b0 fu (b0 + 35) (nI n) ((if nI size < nI (nd A n 1) then nI size else nI (nd A n 1) : Int32) / nI 256) (sI ρ (b0 + 50) n (vp_nar .boolean (1 : Int32)))) _) _
    rw [el]
    have hmin : min (nd A n 1) size < 272385 := by omega
    rw [if_l (by omega) (by omega), nI_dv (by omega) (by omega) (by omega)]
    have e9 : ∀ x, nI (min (nd A n 1) size) - nI (min (nd A n 1) size) / 256 * 256 = x → x = nI (min (nd A n 1) size % 256) := fun x hx => by
      rw [← hx, show (256 : Int32) = nI 256 from rfl, nI_dv (by omega) (by omega) (by omega), pk_mul, nI_md (by omega) (by omega) (by omega)]
    generalize hB : up2 (setN A n 1 size) 50 n 1 = B at hc ho ⊢
    have hz : ∀ C, zb B n (min (nd A n 1) size) = C → (if nd A n 1 < size then zb B n (nd A n 1) else dd n size ((nd A n 1 - 1) / 256 + 1) (zb B n size)) = (if nd A n 1 < size then C else dd n size ((nd A n 1 - 1) / 256 + 1) C) := fun C hC => by
      by_cases q : nd A n 1 < size
      · rw [if_pos q, if_pos q, ← hC, show min (nd A n 1) size = nd A n 1 by omega]
      · rw [if_neg q, if_neg q, ← hC, show min (nd A n 1) size = size by omega]
    by_cases q : 272384 ≤ min (nd A n 1) size
    · rw [if_pos q]
      have hC : zb B n (min (nd A n 1) size) = B := if_neg (by omega)
      rw [hz B hC]
      unfold J_X12_setSize_59
      rw [ltb_def, e9 _ rfl]
      refine ss69n hc (by omega) hu hn hs hw e (by omega) fun q2 => ?_
      have := ho q2
      rw [show size = min (nd A n 1) size by omega, hC] at this
      rw [show min (nd A n 1) size = size by omega] at this
      exact this
    · rw [if_neg q, has_eq hc.ra hc.ok hn (by omega), cll_some]
      have hh := has_le hc.ok (n := n) (i := min (nd A n 1) size / 256) hn (by omega)
      by_cases z : hasA B n (min (nd A n 1) size / 256) = 0
      · have hC : zb B n (min (nd A n 1) size) = B := if_neg (fun q => q.2 z)
        rw [hz B hC, z]
        unfold J_X12_setSize_59
        rw [ltb_def, e9 _ rfl]
        refine ss69n hc (by omega) hu hn hs hw e (by omega) fun q2 => ?_
        have := ho q2
        rw [show size = min (nd A n 1) size by omega, hC] at this
        rw [show min (nd A n 1) size = size by omega] at this
        exact this
      · have hC : zb B n (min (nd A n 1) size) = zt (hasA B n (min (nd A n 1) size / 256) - 1) (min (nd A n 1) size % 256) (256 - min (nd A n 1) size % 256) B := if_pos ⟨by omega, z⟩
        rw [hz _ hC]
        unfold J_X12_setSize_59
        rw [ltb_def, e9 _ rfl, show nI (hasA B n (min (nd A n 1) size / 256)) - 1 = nI (hasA B n (min (nd A n 1) size / 256) - 1) from nI_sb (b := 1) (by omega)]
        refine ss69 (by omega) hu hn hs hw e (by omega) _ _ fu _ B hc (by omega) (by omega) fun q2 => ?_
        have := ho q2
        rw [← hC, show min (nd A n 1) size = size by omega]
        exact this
/-- whether a node is open -/
def opA (A : Nat → Nat → Nat) (n : Nat) : Bool := decide (sr (fun h => A 71 h == n + 1) 0 16 < 16)
theorem hd_eq {x n : Nat} (hx : x < 2147483648) (hn : n < 64) : (nI x - 1 = nI n) ↔ x = n + 1 := by
  cases x with
  | zero =>
    constructor
    · intro e
      have : (nI 0 - 1).toInt = (nI n).toInt := by rw [e]
      rw [nI_toInt (by omega)] at this
      have h2 : (nI 0 - 1).toInt = -1 := by decide
      omega
    · omega
  | succ x =>
    rw [show nI (x + 1) - 1 = nI x from nI_sb (a := x + 1) (b := 1) (by omega), nI_eq (by omega) (by omega)]
    omega
theorem isOpen_loop (h : RA b0 σ A) {n : Nat} (hn : n < 64) : ∀ m k f, k + m = 16 → m < f → L_X12_isOpen_2 b0 fu f (b0 + 35) (nI n) (nI k) σ = some (nI (if sr (fun h => A 71 h == n + 1) k m < 16 then 1 else 0), σ) := by
  have L := h.lay
  intro m
  induction m with
  | zero =>
    intro k f hk hf
    obtain ⟨f, rfl⟩ : ∃ q, f = q + 1 := ⟨f - 1, by omega⟩
    simp (disch := first | assumption | omega) only [L_X12_isOpen_2, lits, nI_add, pk_mul, ofi, ltb_def, cll_some, grw_same, osm_some, ckZ_0, ckZ_1, nI_cl, nI_eqP, nI_leP, nI_ltP, nI_dv, nI_md, nI_sb, ckI_n]
    rw [if_pos (by omega), if_neg (by unfold sr; omega)]
  | succ m ih =>
    intro k f hk hf
    obtain ⟨f, rfl⟩ : ∃ q, f = q + 1 := ⟨f - 1, by omega⟩
    have hk16 : k < 16 := by omega
    unfold L_X12_isOpen_2
    simp only [ltb_def]
    rw [show (16 : Int32) = nI 16 from rfl, if_l (by omega) (by omega), if_neg (by omega), ckR_35 L, osm_p (rfR_35_58 L), ckR_71 L, ckI_n hk16 (by omega), nI_cl (by omega), rd_71 h, ofi]
    by_cases e : A 71 k = n + 1
    · rw [if_pos ((hd_eq (bd_71 h k) hn).mpr e)]
      have : sr (fun h => A 71 h == n + 1) k (m + 1) = k := by simp [sr, e]
      rw [this, if_pos hk16]
      rfl
    · rw [if_neg (fun q => e ((hd_eq (bd_71 h k) hn).mp q)), ih (k + 1) f (by omega) (by omega)]
      simp [sr, e]
theorem isOpen_eq (h : RA b0 σ A) {n : Nat} (hn : n < 64) (hu : 3000 ≤ fu) : m_X12_isOpen b0 fu (b0 + 35) (nI n) σ = some (nI (if opA A n then 1 else 0), σ) := by
  unfold m_X12_isOpen
  show grw σ (L_X12_isOpen_2 b0 fu fu (b0 + 35) (nI n) (nI 0) σ) = _
  rw [isOpen_loop h hn 16 0 fu (by omega) (by omega), grw_same]
  simp [opA]
def mfA (A : Nat → Nat → Nat) (n : Nat) : Nat → Nat → Nat := if 0 < nd A n 2 ∨ opA A n = true then A else setN (if nd A n 0 = 1 then szA A n 0 else A) n 0 0
theorem maybeFree_wp {n : Nat} (h : RM b0 J σ A N) (hN : N + 2 < 65536) (hu : 3000 ≤ fu) (hn : n < 64)
    (ho : nd A n 2 = 0 → opA A n = false → nd A n 0 = 1 → 0 < nd A n 1 → ddOk n 0 ((nd A n 1 - 1) / 256 + 1) (zb (up2 (setN A n 1 0) 50 n 1) n 0)) : wp (FR b0) σ (m_X12_maybeFree b0 fu (b0 + 35) (nI n) σ) (fun _ τ => RM b0 J τ (mfA A n) (N + 2)) := by
  have L := h.ra.lay
  have b2 : nd A n 2 < 2147483648 := bd_36 h.ra _
  have b0' : nd A n 0 < 2147483648 := bd_36 h.ra _
  refine wp_grw (FR_good b0) ?_
  rw [ckR_35 L]
  show wp (FR b0) σ (cll (m_X12_node b0 fu (b0 + 35) (nI n) (nI 2) σ) _) _
  rw [node_eq h.ra hn (by omega), cll_some]
  show wp (FR b0) σ (if nI 0 < nI (nd A n 2) then _ else _) _
  rw [if_t (by omega) b2]
  unfold mfA
  by_cases e : 0 < nd A n 2
  · rw [if_pos e, if_pos (Or.inl e)]
    exact wp_ret ((FR_good b0).1 _) (RM_le h (by omega))
  · rw [if_neg e, ckR_35 L, isOpen_eq h.ra hn hu, cll_some]
    cases eo : opA A n with
    | true =>
      rw [if_neg (show ¬ nI (if true = true then 1 else 0) = 0 by decide), if_pos (Or.inr rfl)]
      exact wp_ret ((FR_good b0).1 _) (RM_le h (by omega))
    | false =>
      rw [if_pos (show nI (if false = true then 1 else 0) = 0 from rfl), if_neg (fun q => q.elim e (by decide)), ckR_35 L]
      show wp (FR b0) σ (cll (m_X12_node b0 fu (b0 + 35) (nI n) (nI 0) σ) _) _
      rw [node_eq h.ra hn (by omega), cll_some]
      show wp (FR b0) σ (if nI (nd A n 0) = nI 1 then _ else _) _
      rw [if_e b0' (by omega)]
      by_cases e1 : nd A n 0 = 1
      · rw [if_pos e1, if_pos e1, ckR_35 L]
        show wp (FR b0) σ (cll (m_X12_setSize b0 fu (b0 + 35) (nI n) (nI 0) σ) _) _
        refine wp_bind (FR_good b0) (setSize_wp h (by omega) hu hn (by omega) (ho (by omega) eo e1)) fun v ρ h1 => ?_
        unfold J_X12_maybeFree_34
        rw [ckR_35 h1.ra.lay]
        exact wp_bind (FR_good b0) (putNode_wp (w := 0) (v := 0) h1 (by omega) hn (by omega) (by decide)) fun v ρ h2 => wp_ret ((FR_good b0).1 _) h2
      · rw [if_neg e1, if_neg e1]
        unfold J_X12_maybeFree_34
        rw [ckR_35 L]
        exact wp_bind (FR_good b0) (putNode_wp (w := 0) (v := 0) h (by omega) hn (by omega) (by decide)) fun v ρ h2 => wp_ret ((FR_good b0).1 _) (RM_le h2 (by omega))
end RS2
