/-! ===== PURE: the reference's needs; entries added and removed ===== -/
def b2n (b : Bool) : Nat := if b then 1 else 0
def ndL (A : Nat → Nat → Nat) (n : Nat) : Nat → Nat → Nat → Bool → Bool → Nat
  | 0, _, _, _, _ => 0
  | m + 1, i, ll, s, t =>
    if hasA A n i ≠ 0 then ndL A n m (i + 1) ll s t
    else if i < 8 then 1 + ndL A n m (i + 1) ll s t
    else if i < 40 then (if s then 1 else 2) + ndL A n m (i + 1) ll true t
    else ((if t then 1 else 2) + (if leafA A n i = 0 ∧ (i - 40) / 32 + 1 ≠ ll then 1 else 0)) + ndL A n m (i + 1) ((i - 40) / 32 + 1) s true
def nee (A : Nat → Nat → Nat) (n fr to : Nat) : Nat := ndL A n (to + 1 - fr) fr 0 (nd A n 93 != 0) (nd A n 94 != 0)
theorem ndL_le (A : Nat → Nat → Nat) (n : Nat) : ∀ m i ll s t, ndL A n m i ll s t ≤ 3 * m
  | 0, _, _, _, _ => Nat.le_refl _
  | m + 1, i, ll, s, t => by
    have h1 := ndL_le A n m (i + 1) ll s t
    have h2 := ndL_le A n m (i + 1) ll true t
    have h3 := ndL_le A n m (i + 1) ((i - 40) / 32 + 1) s true
    unfold ndL
    repeat (first | omega | split)
def putE (A : Nat → Nat → Nat) (d k v : Nat) : Nat → Nat → Nat := up2 (up2 A 36 (ex A d k 0) v) 51 (34 + A 35 6 + (hasA A d (k / 8) - 1)) 1
def bareA (A : Nat → Nat → Nat) (d i : Nat) : Bool := decide (sr (fun k => eN A d k != 64) (8 * i) 8 = 8 * i + 8)
section RY
variable {b0 fu : Nat} {σ τ : tM} {A : Nat → Nat → Nat} {N : Nat} {J : tJ}
theorem needs43 (h : RA b0 σ A) (hT : okT A) {n to : Nat} (hn : n < 64) (ht : to < 1064) : ∀ m i ll s t c f, i + m = to + 1 → m < f → ll ≤ 33 → c + 3 * m < 100000 → L_X12_needs_43 b0 fu f (b0 + 35) (nI n) (nI to) (nI c) (nI ll - 1) (nI (b2n s)) (nI (b2n t)) (nI i) σ = some (nI (c + ndL A n m i ll s t), σ) := by
  have L := h.lay
  intro m
  induction m with
  | zero =>
    intro i ll s t c f hi hf hl hc
    obtain ⟨f, rfl⟩ : ∃ q, f = q + 1 := ⟨f - 1, by omega⟩
    unfold L_X12_needs_43
    rw [ltb_def, if_t (by omega) (by omega), if_pos (by omega)]
    rfl
  | succ m ih =>
    intro i ll s t c f hi hf hl hc
    obtain ⟨f, rfl⟩ : ∃ q, f = q + 1 := ⟨f - 1, by omega⟩
    have l1 := has_le hT hn (i := i) (by omega)
    have l2 := leaf_le hT hn (i := i) (by omega)
    unfold L_X12_needs_43 ndL
    rw [ltb_def, if_t (by omega) (by omega), if_neg (by omega), ckR_35 L, has_eq h hT hn (by omega), cll_some]
    show (if nI (hasA A n i) = nI 0 then _ else _) = _
    rw [if_e (by omega) (by omega)]
    by_cases z : hasA A n i = 0
    · rw [if_pos z, if_neg (fun q => q z), ltb_def, ofi]
      by_cases e8 : i < 8
      · rw [if_pos e8]
        show (if nI i < nI 8 then _ else _) = _
        rw [if_t (by omega) (by omega), if_pos e8]
        unfold J_X12_needs_90 J_X12_needs_145
        show (if nI 40 ≤ nI i then _ else _) = _
        rw [if_l (by omega) (by omega), if_neg (by omega), ltb_def, ofi, ih (i + 1) ll s t (c + 1) f (by omega) (by omega) hl (by omega), Nat.add_assoc]
      · rw [if_neg e8]
        show (if nI i < nI 8 then _ else if nI 40 ≤ nI i then _ else _) = _
        rw [if_t (by omega) (by omega), if_neg e8, if_l (by omega) (by omega)]
        by_cases e40 : i < 40
        · rw [if_neg (by omega), if_pos e40]
          cases s with
          | false =>
            rw [if_pos (show nI (b2n false) = 0 from rfl), if_neg (by decide), ltb_def, ofi]
            unfold J_X12_needs_90 J_X12_needs_145
            show (if nI 40 ≤ nI i then _ else _) = _
            rw [if_l (by omega) (by omega), if_neg (by omega), ltb_def, ofi]
            show L_X12_needs_43 b0 fu f (b0 + 35) (nI n) (nI to) (nI (c + 1 + 1)) (nI ll - 1) (nI (b2n true)) (nI (b2n t)) (nI (i + 1)) σ = _
            rw [ih (i + 1) ll true t (c + 1 + 1) f (by omega) (by omega) hl (by omega), Nat.add_assoc, Nat.add_assoc, ← Nat.add_assoc 1 1]
          | true =>
            rw [if_neg (show ¬ nI (b2n true) = 0 by decide), if_pos rfl]
            unfold J_X12_needs_90 J_X12_needs_145
            show (if nI 40 ≤ nI i then _ else _) = _
            rw [if_l (by omega) (by omega), if_neg (by omega), ltb_def, ofi]
            rw [ih (i + 1) ll true t (c + 1) f (by omega) (by omega) hl (by omega), Nat.add_assoc]
        · rw [if_pos (by omega), if_neg e40]
          have hq : (i - 40) / 32 < 32 := by omega
          have key : ∀ c2, c2 + 1 + 3 * m < 100000 → J_X12_needs_111 b0 fu (L_X12_needs_43 b0 fu f) (b0 + 35) (nI n) (nI to) (nI c2) (nI ll - 1) (nI (b2n s)) (nI (b2n true)) (nI i) σ = some (nI (c2 + (if leafA A n i = 0 ∧ (i - 40) / 32 + 1 ≠ ll then 1 else 0) + ndL A n m (i + 1) ((i - 40) / 32 + 1) s true), σ) := by
            intro c2 hc2
            unfold J_X12_needs_111 J_X12_needs_141 J_X12_needs_145
            have e9 : (nI i - 40) / 32 = nI ((i - 40) / 32) := by
              rw [show nI i - 40 = nI (i - 40) from nI_sb (b := 40) (by omega)]
              exact nI_dv (d := 32) (by omega) (by omega) (by omega)
            have e10 : nI ((i - 40) / 32) = nI ((i - 40) / 32 + 1) - 1 := (nI_sb (a := (i - 40) / 32 + 1) (b := 1) (by omega)).symm
            simp only [ltb_def, ofi]
            rw [e9, ckR_35 L, leafOf_eq h hT hn (by omega), cll_some]
            show (if nI (leafA A n i) = nI 0 then _ else _) = _
            rw [if_e (by omega) (by omega)]
            by_cases zl : leafA A n i = 0
            · rw [if_pos zl]
              by_cases el : (i - 40) / 32 + 1 = ll
              · rw [if_pos (show nI ((i - 40) / 32) = nI ll - 1 by rw [← el, e10]), if_neg (fun q => q.2 el)]
                rw [e10, ih (i + 1) ((i - 40) / 32 + 1) s true c2 f (by omega) (by omega) (by omega) (by omega)]
                rfl
              · rw [if_neg (show ¬ nI ((i - 40) / 32) = nI ll - 1 from fun q => el ?_), if_pos ⟨zl, el⟩]
                · rw [e10, ih (i + 1) ((i - 40) / 32 + 1) s true (c2 + 1) f (by omega) (by omega) (by omega) (by omega)]
                · have := (hd_eq (x := ll) (n := (i - 40) / 32) (by omega) (by omega)).mp q.symm
                  omega
            · rw [if_neg zl, if_neg (fun q => zl q.1)]
              rw [e10, ih (i + 1) ((i - 40) / 32 + 1) s true c2 f (by omega) (by omega) (by omega) (by omega)]
              rfl
          unfold J_X12_needs_90
          show (if nI 40 ≤ nI i then _ else _) = _
          rw [if_l (by omega) (by omega), if_pos (by omega)]
          cases t with
          | false =>
            rw [if_pos (show nI (b2n false) = 0 from rfl), if_neg (by decide), ltb_def, ofi]
            show J_X12_needs_111 b0 fu (L_X12_needs_43 b0 fu f) (b0 + 35) (nI n) (nI to) (nI (c + 1 + 1)) (nI ll - 1) (nI (b2n s)) (nI (b2n true)) (nI i) σ = _
            rw [key (c + 1 + 1) (by omega)]
            congr 3
            omega
          | true =>
            rw [if_neg (show ¬ nI (b2n true) = 0 by decide), if_pos rfl, key (c + 1) (by omega)]
            congr 3
            omega
    · rw [if_neg z, if_pos z]
      unfold J_X12_needs_145
      rw [ltb_def, ofi, ih (i + 1) ll s t c f (by omega) (by omega) hl (by omega)]
theorem needs_eq (h : RA b0 σ A) (hT : okT A) {n fr to : Nat} (hn : n < 64) (ht : to < 1064) (hf : fr ≤ to) (hu : 10000 ≤ fu) : m_X12_needs b0 fu (b0 + 35) (nI n) (nI fr) (nI to) σ = some (nI (nee A n fr to), σ) := by
  have L := h.lay
  have b1 : nd A n 93 < 2147483648 := bd_36 h _
  have b2 : nd A n 94 < 2147483648 := bd_36 h _
  have k : ∀ s t, L_X12_needs_43 b0 fu fu (b0 + 35) (nI n) (nI to) (nI 0) (nI 0 - 1) (nI (b2n s)) (nI (b2n t)) (nI fr) σ = _ := fun s t => needs43 h hT hn ht (to + 1 - fr) fr 0 s t 0 fu (by omega) (by omega) (by omega) (by omega)
  have key : ∀ s, J_X12_needs_21 b0 fu (b0 + 35) (nI n) (nI fr) (nI to) (0) (-1) (nI (b2n s)) σ = some (nI (ndL A n (to + 1 - fr) fr 0 s (nd A n 94 != 0)), σ) := by
    intro s
    unfold J_X12_needs_21 J_X12_needs_38
    rw [ckR_35 L]
    show cll (m_X12_node b0 fu (b0 + 35) (nI n) (nI 94) σ) _ = _
    rw [node_nd h hn (by omega), cll_some]
    show (if nI (nd A n 94) = nI 0 then _ else _) = _
    rw [if_e b2 (by omega)]
    by_cases z : nd A n 94 = 0
    · rw [if_pos z, show (nd A n 94 != 0) = false by simp [z]]
      have := k s false
      rw [Nat.zero_add] at this
      exact this
    · rw [if_neg z, show (nd A n 94 != 0) = true by simpa using z]
      have := k s true
      rw [Nat.zero_add] at this
      exact this
  unfold m_X12_needs nee
  rw [ckR_35 L]
  show grw σ (cll (m_X12_node b0 fu (b0 + 35) (nI n) (nI 93) σ) _) = _
  rw [node_nd h hn (by omega), cll_some]
  show grw σ (if nI (nd A n 93) = nI 0 then _ else _) = _
  rw [if_e b1 (by omega)]
  by_cases z : nd A n 93 = 0
  · rw [if_pos z, show (nd A n 93 != 0) = false by simp [z]]
    have := key false
    show grw σ (J_X12_needs_21 b0 fu (b0 + 35) (nI n) (nI fr) (nI to) (0) (-1) (nI (b2n false)) σ) = _
    rw [this, grw_same]
  · rw [if_neg z, show (nd A n 93 != 0) = true by simpa using z]
    have := key true
    show grw σ (J_X12_needs_21 b0 fu (b0 + 35) (nI n) (nI fr) (nI to) (0) (-1) (nI (b2n true)) σ) = _
    rw [this, grw_same]
def lkA (A : Nat → Nat → Nat) (d : Nat) : Bool := decide (ffA A d = eAll A d ∧ fre A < nee A d (ffA A d / 8) (ffA A d / 8))
theorem lacks_eq (h : RA b0 σ A) (hT : okT A) {d : Nat} (hD : dirOk A d) (hr : A 35 7 ≤ 2000) (hu : 10000 ≤ fu) : m_X12_lacks b0 fu (b0 + 35) (nI d) σ = some (nI (b2n (lkA A d)), σ) := by
  have L := h.lay
  obtain ⟨hd, hs, hb⟩ := id hD
  have ea : eAll A d < 8512 := by unfold eAll; omega
  have ef : ffA A d ≤ eAll A d := by have := (sr_le (fun k => eN A d k == 64) (eAll A d) 0).2; unfold ffA; omega
  have nl : nee A d (ffA A d / 8) (ffA A d / 8) ≤ 3 := by have := ndL_le A d (ffA A d / 8 + 1 - ffA A d / 8) (ffA A d / 8) 0 (nd A d 93 != 0) (nd A d 94 != 0); unfold nee; omega
  have fl : fre A ≤ 2000 := by have := cn_le (frA A) (A 35 7) 0; unfold fre; omega
  unfold m_X12_lacks
  rw [ckR_35 L, firstFree_eq h hT hD hu, cll_some, ckR_35 L, entries_eq h hT hd, cll_some, if_e (by omega) (by omega)]
  unfold lkA
  by_cases e : ffA A d = eAll A d
  · rw [if_pos e, ckR_35 L]
    have i8 : nI (ffA A d) / 8 = nI (ffA A d / 8) := nI_dv (d := 8) (by omega) (by omega) (by omega)
    have hi : ffA A d / 8 < 1064 := by unfold eAll at e; omega
    rw [i8, needs_eq h hT hd hi (Nat.le_refl _) hu, cll_some, ckR_35 L, freeBlocks_eq h hr (by omega), cll_some]
    show grw σ (if nI (nee A d (ffA A d / 8) (ffA A d / 8)) ≤ nI (fre A) then _ else _) = _
    rw [if_l (by omega) (by omega)]
    unfold J_X12_lacks_39 J_X12_lacks_40
    by_cases q : nee A d (ffA A d / 8) (ffA A d / 8) ≤ fre A
    · rw [if_pos q, decide_eq_false (fun w => by omega)]
      exact grw_same
    · rw [if_neg q, decide_eq_true ⟨e, by omega⟩]
      exact grw_same
  · rw [if_neg e, decide_eq_false (fun w => e w.1)]
    exact grw_same
end RY
