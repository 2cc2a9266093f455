/-! ===== PURE: the reference's public methods: what stands ahead of each ===== -/
def paX (A : tS) (J : tJ) (un : Nat) : tP ⊕ tP := if gsA A ≤ A 35 6 / 2 then .inl (A, J) else cmX A J un
def uaX (A : tS) (J : tJ) (un : Nat) : tP ⊕ tP := if A 35 18 = 0 then .inr (A, J) else paX A J un
def uaOk (A : tS) (J : tJ) : Prop := A 35 18 ≠ 0 → ¬ gsA A ≤ A 35 6 / 2 → cmOk A J
/-- the node of a handle -/
def hdA (A : tS) (x : Int32) : Option Nat := if ¬ x < 0 ∧ x < 16 ∧ A 71 x.toNatClampNeg ≠ 0 then some (A 71 x.toNatClampNeg - 1) else none
def bwA (A : tS) (n : Nat) : Nat → Nat → Bool
  | 0, d => d == n
  | f + 1, d => if d = n then true else if d = 0 then false else bwA A n f (nd A d 3)
section PB
variable {b0 fu : Nat} {σ τ : tM} {A B U : tS} {N K K' : Nat} {J : tJ}
theorem up_wp (h : RM b0 J σ A N) : wp (FR b0) σ (m_X12_up b0 fu (b0 + 35) σ) (fun v τ => RY b0 N v τ (if A 35 18 = 0 then .inr (A, J) else .inl (A, J))) := by
  have L := h.ra.lay
  have b18 := bd_35 h.ra 18
  refine wp_grw (FR_good b0) ?_
  rw [ckR_35 L, rf_18 h.ra]
  show wp (FR b0) σ (if nI (A 35 18) = nI 0 then _ else _) _
  rw [if_e b18 (by omega)]
  by_cases e : A 35 18 = 0
  · rw [if_pos e]
    simp only [if_pos e]
    exact wp_ret ((FR_good b0).1 _) ⟨rfl, h⟩
  · rw [if_neg e]
    simp only [if_neg e]
    exact wp_ret ((FR_good b0).1 _) ⟨rfl, h⟩
theorem off_wp (h : RM b0 J σ A N) : wp (FR b0) σ (m_X12_off b0 fu (b0 + 35) σ) (fun v τ => v = nI 0 ∧ RM b0 J τ (up2 A 35 0 1) N) := by
  have L := h.ra.lay
  refine wp_grw (FR_good b0) ?_
  rw [ckR_35 L]
  exact wp_ret (FR_sI (refO_f 35 (by omega) (by omega))) ⟨rfl, RM_fix (x := 1) h rfl (by decide) rfl (by decide)⟩
theorem postAhead_wp (h : RM b0 J σ A N) (hl : A 35 6 ≤ 4096) (ho : ¬ gsA A ≤ A 35 6 / 2 → cmOk A J) (hu : 1200000 ≤ fu) : wp (FR b0) σ (m_X12_postAhead b0 fu (b0 + 35) σ) (fun v τ => ∃ un, un ≤ N ∧ RY b0 N v τ (paX A J un)) := by
  have L := h.ra.lay
  have gb := gs_lt A
  have eg := groupSize_eq (fu := fu) h.ra (by omega)
  refine wp_grw (FR_good b0) ?_
  unfold paX
  generalize gsA A = g at gb eg ho ⊢
  rw [ckR_35 L, eg, cll_some, ckR_35 L, rf_6 h.ra, show (2 : Int32) = nI 2 from rfl, nI_dv (by omega) (by omega) (by omega), if_l (by omega) (by omega)]
  by_cases e : g ≤ A 35 6 / 2
  · rw [if_pos e]
    simp only [if_pos e]
    exact wp_ret ((FR_good b0).1 _) ⟨0, Nat.zero_le _, rfl, h⟩
  · rw [if_neg e]
    simp only [if_neg e]
    obtain ⟨v, τ, x1, x2, un, x3, x4⟩ := commit_wp (fu := fu) h (ho e) hu
    rw [x1]
    cases v with
    | inl u =>
      show wp (FR b0) σ (some ((Sum.inl () : Unit ⊕ Unit), τ)) _
      exact wp_ret x2 ⟨un, x3, x4⟩
    | inr u =>
      show wp (FR b0) σ (some ((Sum.inr () : Unit ⊕ Unit), τ)) _
      exact wp_ret x2 ⟨un, x3, x4⟩
theorem upAhead_wp (h : RM b0 J σ A N) (hl : A 35 6 ≤ 4096) (ho : uaOk A J) (hu : 1200000 ≤ fu) : wp (FR b0) σ (m_X12_upAhead b0 fu (b0 + 35) σ) (fun v τ => ∃ un, un ≤ N ∧ RY b0 N v τ (uaX A J un)) := by
  have L := h.ra.lay
  refine wp_grw (FR_good b0) ?_
  rw [ckR_35 L]
  have hup := up_wp (fu := fu) h
  unfold uaX
  by_cases e : A 35 18 = 0
  · simp only [if_pos e] at hup ⊢
    refine wp_clx (FR_good b0) hup (fun v ρ q => ?_) (fun ρ q => ⟨0, Nat.zero_le _, q⟩)
    exact absurd q.1 (fun e => by cases e)
  · simp only [if_neg e] at hup ⊢
    refine wp_clx (FR_good b0) hup (fun v ρ q => ?_) (fun ρ q => ?_)
    · rw [ckR_35 q.2.ra.lay]
      obtain ⟨v2, τ, x1, x2, un, x3, x4⟩ := postAhead_wp (fu := fu) q.2 hl (ho e) hu
      rw [x1]
      cases v2 with
      | inl u =>
        show wp (FR b0) ρ (some ((Sum.inl () : Unit ⊕ Unit), τ)) _
        exact wp_ret x2 ⟨un, x3, x4⟩
      | inr u =>
        show wp (FR b0) ρ (some ((Sum.inr () : Unit ⊕ Unit), τ)) _
        exact wp_ret x2 ⟨un, x3, x4⟩
    · exact absurd q.1 (fun e => by cases e)
theorem isHandle_eq (h : RA b0 σ A) (x : Int32) : m_X12_isHandle b0 fu (b0 + 35) x σ = some (nI (b2n (hdA A x).isSome), σ) := by
  have L := h.lay
  unfold m_X12_isHandle J_X12_isHandle_23 J_X12_isHandle_24 hdA
  by_cases e0 : x < 0
  · rw [if_pos e0, if_neg (fun q => q.1 e0)]
    exact grw_same
  · obtain ⟨n, hn, rfl⟩ := nI_of e0
    rw [if_neg e0]
    by_cases e1 : n < 16
    · have b71 := bd_71 h n
      rw [show (16 : Int32) = nI 16 from rfl, if_l (a := 16) (b := n) (by omega) (by omega), if_neg (show ¬ 16 ≤ n by omega), ckR_35 L, osm_p (rfR_35_58 L), ckR_71 L, ckI_n e1 (by omega), nI_cl hn, rd_71 h]
      by_cases e2 : A 71 n = 0
      · rw [e2, if_pos (show nI 0 - 1 < 0 by decide), if_neg (fun q => q.2.2 rfl)]
        exact grw_same
      · rw [show nI (A 71 n) - 1 = nI (A 71 n - 1) from nI_sb (b := 1) (by omega), if_neg (show ¬ nI (A 71 n - 1) < 0 from nI_pos (by omega)), if_pos ⟨e0, (nI_ltP (a := n) (b := 16) (by omega) (by omega)).mpr e1, e2⟩]
        exact grw_same
    · rw [show (16 : Int32) = nI 16 from rfl, if_l (a := 16) (b := n) (by omega) (by omega), if_pos (show 16 ≤ n by omega), if_neg (fun q => e1 ?_)]
      · exact grw_same
      · have := (nI_ltP (a := n) (b := 16) (by omega) (by omega)).mp q.2.1
        exact this
/-- the way up ends within m steps -/
def bwOk (A : tS) (n : Nat) : Nat → Nat → Prop
  | 0, d => d = n ∨ d = 0
  | m + 1, d => d = n ∨ d = 0 ∨ bwOk A n m (nd A d 3)
theorem isBelow_loop (h : RA b0 σ A) (hT : okT A) {n : Nat} (hn : n < 64) : ∀ m d f, d < 64 → m < f → bwOk A n m d → L_X12_isBelow_2 b0 fu f (b0 + 35) (nI n) (nI d) σ = some (nI (b2n (bwA A n m d)), σ) := by
  have L := h.lay
  have stop : ∀ d f, d < 64 → d = n ∨ d = 0 → L_X12_isBelow_2 b0 fu (f + 1) (b0 + 35) (nI n) (nI d) σ = some (nI (b2n (d == n)), σ) := by
    intro d f hd e
    unfold L_X12_isBelow_2 J_X12_isBelow_21 J_X12_isBelow_31
    rw [ltb_def, if_e (by omega) (by omega), if_e (by omega) (by omega)]
    by_cases e1 : d = n
    · rw [if_pos e1, if_pos e1, show (d == n) = true by simp [e1]]
      exact ckZ_1
    · have e2 : d = 0 := by omega
      rw [if_neg e1, if_neg e1, if_pos (show nI d = 0 by rw [e2]; rfl), show (d == n) = false by simpa using e1]
      exact ckZ_0
  intro m
  induction m with
  | zero =>
    intro d f hd hf ho
    obtain ⟨f, rfl⟩ : ∃ q, f = q + 1 := ⟨f - 1, by omega⟩
    rw [stop d f hd ho]
    rfl
  | succ m ih =>
    intro d f hd hf ho
    obtain ⟨f, rfl⟩ : ∃ q, f = q + 1 := ⟨f - 1, by omega⟩
    by_cases e1 : d = n
    · rw [stop d f hd (Or.inl e1)]
      simp [bwA, e1]
    · by_cases e2 : d = 0
      · rw [stop d f hd (Or.inr e2)]
        subst e2
        have : ¬ (0 : Nat) = n := e1
        rw [show ((0 : Nat) == n) = false from beq_eq_false_iff_ne.mpr this]
        simp [bwA, this]
      · have ho' : bwOk A n m (nd A d 3) := by
          rcases ho with q | q | q
          · exact absurd q e1
          · exact absurd q e2
          · exact q
        unfold L_X12_isBelow_2
        rw [ltb_def, if_e (by omega) (by omega), if_neg e1, if_neg (show ¬ nI d = 0 from nI_ne0 (by omega) (by omega)), ckR_35 L]
        show cll (m_X12_node b0 fu (b0 + 35) (nI d) (nI 3) σ) _ = _
        rw [node_nd h hd (by omega), cll_some, ih (nd A d 3) f (nd_3 hT hd) (by omega) ho']
        simp [bwA, e1, e2]
theorem isBelow_eq (h : RA b0 σ A) (hT : okT A) {n d m : Nat} (hn : n < 64) (hd : d < 64) (hm : m < fu) (ho : bwOk A n m d) : m_X12_isBelow b0 fu (b0 + 35) (nI d) (nI n) σ = some (nI (b2n (bwA A n m d)), σ) := by
  unfold m_X12_isBelow
  rw [isBelow_loop h hT hn m d fu hd hm ho, grw_same]
end PB
