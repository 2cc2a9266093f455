/-! ===== PURE: the reference ensures a block ===== -/
theorem getA_35 (A : Nat → Nat → Nat) (r : Nat) (me : Bool) (j : Nat) : getA A r me 35 j = if j = 34 then A 35 34 + 1 else A 35 j := by
  unfold getA
  rw [up2_o (by decide), fl_at, if_neg (by omega)]
  cases me <;> simp [up2]
theorem setN_o {A : Nat → Nat → Nat} {n w v p j : Nat} (h1 : p ≠ 36) (h2 : p ≠ 51) : setN A n w v p j = A p j := by unfold setN; rw [up2_o h2, up2_o h1]
theorem setP_o {A : Nat → Nat → Nat} {r k v p j : Nat} (h1 : p ≠ 36) (h2 : p ≠ 51) : setP A r k v p j = A p j := by unfold setP; rw [up2_o h2, up2_o h1]
theorem attN_35 (A : Nat → Nat → Nat) (n w : Nat) (me : Bool) (j : Nat) : attN A n w me 35 j = if j = 34 then A 35 34 + 1 else A 35 j := by unfold attN; rw [setN_o (by decide) (by decide), getA_35]
theorem attP_35 (A : Nat → Nat → Nat) (n w : Nat) (me : Bool) (j : Nat) : attP A n w me 35 j = if j = 34 then A 35 34 + 1 else A 35 j := by unfold attP; rw [setP_o (by decide) (by decide), getA_35]
theorem okS_35 {A B : Nat → Nat → Nat} (h : A 35 6 ≤ 4096 ∧ A 35 7 ≤ 2000 ∧ A 35 34 + 1 < 1000000) (e : ∀ j, B 35 j = if j = 34 then A 35 34 + 1 else A 35 j) : okS B := by
  refine ⟨?_, ?_, ?_⟩
  · rw [e, if_neg (by decide)]; exact h.1
  · rw [e, if_neg (by decide)]; exact h.2.1
  · rw [e, if_pos rfl]; exact h.2.2
section RE2
variable {b0 fu : Nat} {σ τ : tM} {A : Nat → Nat → Nat} {N : Nat} {J : tJ}
theorem ff_lt (hf : 0 < fre A) (hS : okS A) : ff A < 2000 := by
  have h1 := sr_cn (frA A) _ _ hf
  have := hS.2.1
  unfold ff
  omega
theorem mwp {α : Type} {F : tM → tM → Prop} {σ : tM} {x : Option (α × tM)} {P Q : α → tM → Prop} (h : wp F σ x P) (k : ∀ v ρ, P v ρ → Q v ρ) : wp F σ x Q := wp_mono h fun v ρ _ => k v ρ
/-- get, and set a node's place to it -/
theorem attN_wp {α : Type} {Q : α → tM → Prop} {k : Unit → tM → Option (α × tM)} (h : RM b0 J σ A N) (hf : 0 < fre A) (hN : N + 4 < 65536) (hS : okS A) (hu : 3000 ≤ fu) {n w : Nat} (hn : n < 64) (hw : w < 95) (hw2 : 85 ≤ w) {me : Bool} (c : ∀ v ρ, RM b0 J ρ (attN A n w me) (N + 5) → wp (FR b0) ρ (k v ρ) Q) : wp (FR b0) σ (cll (m_X12_get b0 fu (b0 + 35) (nI (bif me then 1 else 0)) σ) (fun v93 ρ94 => ckO b0 ρ94 (b0 + 35) 11 (cll (m_X12_putNode b0 fu (b0 + 35) (nI n) (nI w) (nI 1 + v93) ρ94) k))) Q := by
  have hr := ff_lt hf hS
  refine wp_bind (FR_good b0) (getf_wp h hf (by omega) hS hu) fun v ρ h1 => ?_
  obtain ⟨rfl, h1⟩ := h1
  rw [ckR_35 h1.ra.lay, nI_add, Nat.add_comm 1]
  refine wp_bind (FR_good b0) (putNode_wp h1 (by omega) hn hw ?_) fun v2 ρ2 h2 => c v2 ρ2 h2
  unfold bN
  repeat (first | omega | split)
theorem attP_wp {α : Type} {Q : α → tM → Prop} {k : Unit → tM → Option (α × tM)} {ρ : tM} {r q : Nat} {me : Bool} (h1 : RM b0 J ρ (getA A r me) (N + 4)) (hr : r < 2000) (hN : N + 4 < 65536) (hS : okS A) {d : Nat} (hd : d < 2000) (hq : q < 32) (c : ∀ v ρ, RM b0 J ρ (setP (getA A r me) d q (r + 1)) (N + 5) → wp (FR b0) ρ (k v ρ) Q) : wp (FR b0) ρ (cll (m_X12_putPointer b0 fu (b0 + 35) (nI d) (nI q) (nI 1 + nI r) ρ) k) Q := by
  rw [nI_add, Nat.add_comm 1]
  have e : getA A r me 35 6 = A 35 6 := by rw [getA_35, if_neg (by decide)]
  exact wp_bind (FR_good b0) (putPointer_wp h1 (by omega) hd hq (by omega) (by rw [e]; exact hS.1)) fun v2 ρ2 h2 => c v2 ρ2 h2
theorem ens143 (h : RM b0 J σ A N) (hf : 0 < fre A) (hN : N + 4 < 65536) (hS : okS A) (hu : 3000 ≤ fu) {n i : Nat} (hn : n < 64) (hi : i < 1064) (me : Bool) (hl : 8 ≤ i → leafA (getA A (ff A) me) n i = leafA A n i ∧ leafA A n i ≠ 0) : wp (FR b0) σ (J_X12_ensure_143 b0 fu (b0 + 35) (nI n) (nI i) (b0 + 35) (nI (bif me then 1 else 0)) σ) (fun _ τ => RM b0 J τ (if i < 8 then attN A n (85 + i) me else attP A (leafA A n i - 1) (plA i) me) (N + 5)) := by
  unfold J_X12_ensure_143
  have L := h.ra.lay
  have hr := ff_lt hf hS
  simp (disch := first | assumption | omega) only [lits, nI_add, pk_mul, ofi, nI_cl, nI_eqP, nI_leP, nI_ltP, nI_dv, nI_md, nI_sb, ckI_n, ckR_35 L]
  refine wp_bind (FR_good b0) (getf_wp h hf (by omega) hS hu) fun v ρ h1 => ?_
  obtain ⟨rfl, h1⟩ := h1
  by_cases e : i < 8
  · rw [if_neg (by omega), if_pos e, ckR_35 h1.ra.lay, nI_add, Nat.add_comm 1]
    refine wp_bind (FR_good b0) (putNode_wp h1 (by omega) hn (by omega) ?_) fun v2 ρ2 h2 => wp_ret ((FR_good b0).1 _) h2
    unfold bN
    repeat (first | omega | split)
  · obtain ⟨l1, l2⟩ := hl (by omega)
    have l3 := leaf_le h.ok hn hi
    rw [if_pos (by omega), if_neg e, ckR_35 h1.ra.lay, leafOf_eq h1.ra h1.ok hn hi, cll_some, placeOf_eq (by omega) hi, cll_some, ckR_35 h1.ra.lay, l1, nI_sb (by omega)]
    exact attP_wp h1 hr hN hS (by omega) (plA_lt (by omega)) fun v2 ρ2 h2 => wp_ret ((FR_good b0).1 _) h2
/-- what ensuring needs on its way -/
def ensOk (A : Nat → Nat → Nat) (n i : Nat) : Prop :=
  (40 ≤ i → leafA A n i = 0 → 0 < fre A ∧ nd (getA A (ff A) true) n 94 = nd A n 94 ∧ nd A n 94 ≠ 0 ) ∧
  0 < fre (ens3 A n i) ∧ (8 ≤ i → leafA (getA (ens3 A n i) (ff (ens3 A n i)) (nd (ens3 A n i) n 0 == 2)) n i = leafA (ens3 A n i) n i ∧ leafA (ens3 A n i) n i ≠ 0)
def ec1 (A : Nat → Nat → Nat) (n i : Nat) : Nat := if 8 ≤ i ∧ i < 40 ∧ nd A n 93 = 0 then 5 else 0
def ec2 (A : Nat → Nat → Nat) (n i : Nat) : Nat := if 40 ≤ i ∧ nd A n 94 = 0 then 5 else 0
def ec3 (A : Nat → Nat → Nat) (n i : Nat) : Nat := if 40 ≤ i ∧ leafA A n i = 0 then 5 else 0
/-- what ensure adds to the count of changes -/
def ensC (A : Nat → Nat → Nat) (n i : Nat) : Nat := if hasA A n i ≠ 0 then 0 else 5 + ec1 (up2 A 50 n 1) n i + ec2 (ens1 (up2 A 50 n 1) n i) n i + ec3 (ens2 (ens1 (up2 A 50 n 1) n i) n i) n i
theorem ens127 (h : RM b0 J σ A N) (hf : 0 < fre A) (hN : N + 4 < 65536) (hS : okS A) (hu : 3000 ≤ fu) {n i : Nat} (hn : n < 64) (hi : i < 1064) (hl : 8 ≤ i → leafA (getA A (ff A) (nd A n 0 == 2)) n i = leafA A n i ∧ leafA A n i ≠ 0) : wp (FR b0) σ (J_X12_ensure_127 b0 fu (b0 + 35) (nI n) (nI i) σ) (fun _ τ => RM b0 J τ (ens4 A n i) (N + 5)) := by
  unfold J_X12_ensure_127
  have L := h.ra.lay
  have b1 : nd A n 0 < 2147483648 := bd_36 h.ra _
  rw [ckR_35 L]
  show wp (FR b0) σ (cll (m_X12_node b0 fu (b0 + 35) (nI n) (nI 0) σ) _) _
  rw [node_eq h.ra hn (by omega), cll_some]
  show wp (FR b0) σ (if nI (nd A n 0) = nI 2 then _ else _) _
  rw [if_e b1 (by omega)]
  by_cases e : nd A n 0 = 2
  · rw [if_pos e]
    have : (nd A n 0 == 2) = true := by rw [e]; rfl
    rw [this] at hl
    have := ens143 h hf hN hS hu hn hi true hl
    unfold ens4
    rw [‹(nd A n 0 == 2) = true›]
    exact this
  · rw [if_neg e]
    have : (nd A n 0 == 2) = false := by simpa using e
    rw [this] at hl
    have := ens143 h hf hN hS hu hn hi false hl
    unfold ens4
    rw [‹(nd A n 0 == 2) = false›]
    exact this
theorem ens83 (h : RM b0 J σ A N) (hN : N + 9 < 65536) (hS : okS A) (hs : A 35 34 + 1 < 1000000) (hu : 3000 ≤ fu) {n i : Nat} (hn : n < 64) (hi : i < 1064) (ho : ensOk A n i) : wp (FR b0) σ (J_X12_ensure_83 b0 fu (b0 + 35) (nI n) (nI i) σ) (fun _ τ => RM b0 J τ (ens4 (ens3 A n i) n i) (N + ec3 A n i + 5)) := by
  unfold J_X12_ensure_83
  obtain ⟨o1, o2, o3⟩ := ho
  have L := h.ra.lay
  have l3 := leaf_le h.ok hn hi
  simp (disch := first | assumption | omega) only [lits, nI_add, pk_mul, ofi, nI_cl, nI_eqP, nI_leP, nI_ltP, nI_dv, nI_md, nI_sb, ckI_n, ckR_35 L]
  by_cases e : i < 40
  · rw [if_pos e]
    have e3 : ens3 A n i = A := if_neg (by omega)
    have q3 : ec3 A n i = 0 := if_neg (by omega)
    rw [e3] at o2 o3 ⊢
    rw [q3]
    exact mwp (ens127 h o2 (by omega) hS hu hn hi o3) fun v ρ q => RM_le q (by omega)
  · rw [if_neg e, leafOf_eq h.ra h.ok hn hi, cll_some, if_e (by omega) (by omega)]
    by_cases z : leafA A n i = 0
    · rw [if_pos z, ckR_35 L]
      obtain ⟨p1, p2, p3⟩ := o1 (by omega) z
      have d1 := nd_le h.ok (n := n) (w := 94) hn (by omega) (by omega)
      refine wp_bind (FR_good b0) (getf_wp (me := true) h p1 (by omega) hS hu) fun v ρ h1 => ?_
      obtain ⟨rfl, h1⟩ := h1
      have hr := ff_lt p1 hS
      rw [ckR_35 h1.ra.lay, node_eq h1.ra hn (by omega), cll_some, ckR_35 h1.ra.lay]
      show wp (FR b0) ρ (cll (m_X12_putPointer b0 fu (b0 + 35) (nI (nd (getA A (ff A) true) n 94) - nI 1) (nI ((i - 40) / 32)) (nI 1 + nI (ff A)) ρ) _) _
      rw [p2, nI_sb (by omega)]
      refine attP_wp h1 hr (by omega) hS (by omega) (by omega) fun v2 ρ2 h2 => ?_
      have e3 : ens3 A n i = attP A (nd A n 94 - 1) ((i - 40) / 32) true := if_pos ⟨by omega, z⟩
      have q3 : ec3 A n i = 5 := if_pos ⟨by omega, z⟩
      rw [q3]
      have h3 : RM b0 J ρ2 (ens3 A n i) (N + 5) := by rw [e3]; exact h2
      have S3 : okS (ens3 A n i) := by rw [e3]; exact okS_35 ⟨hS.1, hS.2.1, hs⟩ (attP_35 _ _ _ _)
      exact ens127 h3 o2 (by omega) S3 hu hn hi o3
    · rw [if_neg z]
      have e3 : ens3 A n i = A := if_neg (fun q => z q.2)
      have q3 : ec3 A n i = 0 := if_neg (fun q => z q.2)
      rw [e3] at o2 o3 ⊢
      rw [q3]
      exact mwp (ens127 h o2 (by omega) hS hu hn hi o3) fun v ρ q => RM_le q (by omega)
theorem ens53 (h : RM b0 J σ A N) (hN : N + 14 < 65536) (hS : okS A) (hs : A 35 34 + 2 < 1000000) (hu : 3000 ≤ fu) {n i : Nat} (hn : n < 64) (hi : i < 1064) (h2 : 40 ≤ i → nd A n 94 = 0 → 0 < fre A) (ho : ensOk (ens2 A n i) n i) : wp (FR b0) σ (J_X12_ensure_53 b0 fu (b0 + 35) (nI n) (nI i) σ) (fun _ τ => RM b0 J τ (ens4 (ens3 (ens2 A n i) n i) n i) (N + ec2 A n i + ec3 (ens2 A n i) n i + 5)) := by
  unfold J_X12_ensure_53
  have L := h.ra.lay
  have b1 : nd A n 94 < 2147483648 := bd_36 h.ra _
  simp (disch := first | assumption | omega) only [lits, nI_add, pk_mul, ofi, nI_cl, nI_eqP, nI_leP, nI_ltP, nI_dv, nI_md, nI_sb, ckI_n, ckR_35 L]
  by_cases e : i < 40
  · rw [if_pos e]
    have e3 : ens2 A n i = A := if_neg (by omega)
    have q2 : ec2 A n i = 0 := if_neg (by omega)
    rw [e3] at ho ⊢
    rw [q2]
    exact mwp (ens83 h (by omega) hS (by omega) hu hn hi ho) fun v ρ q => RM_le q (by omega)
  · rw [if_neg e, node_eq h.ra hn (by omega), cll_some]
    show wp (FR b0) σ (if nI (nd A n 94) = nI 0 then _ else _) _
    rw [if_e b1 (by omega)]
    by_cases z : nd A n 94 = 0
    · rw [if_pos z]
      have e3 : ens2 A n i = attN A n 94 true := if_pos ⟨by omega, z⟩
      have q2 : ec2 A n i = 5 := if_pos ⟨by omega, z⟩
      rw [q2]
      rw [ckR_35 L]
      refine attN_wp (me := true) (w := 94) h (h2 (by omega) z) (by omega) hS hu hn (by omega) (by omega) fun v ρ h3 => ?_
      rw [← e3] at h3
      have S3 : okS (ens2 A n i) := by rw [e3]; exact okS_35 ⟨hS.1, hS.2.1, by omega⟩ (attN_35 _ _ _ _)
      have s3 : ens2 A n i 35 34 = A 35 34 + 1 := by rw [e3, attN_35, if_pos rfl]
      exact ens83 h3 (by omega) S3 (by omega) hu hn hi ho
    · rw [if_neg z]
      have e3 : ens2 A n i = A := if_neg (fun q => z q.2)
      have q2 : ec2 A n i = 0 := if_neg (fun q => z q.2)
      rw [e3] at ho ⊢
      rw [q2]
      exact mwp (ens83 h (by omega) hS (by omega) hu hn hi ho) fun v ρ q => RM_le q (by omega)
theorem ensure_c (h : RM b0 J σ A N) (hN : N + 19 < 65536) (hS : okS A) (hs : A 35 34 + 3 < 1000000) (hu : 3000 ≤ fu) {n i : Nat} (hn : n < 64) (hi : i < 1064)
    (h1 : hasA A n i = 0 → 8 ≤ i → i < 40 → nd A n 93 = 0 → 0 < fre (up2 A 50 n 1)) (h2 : hasA A n i = 0 → 40 ≤ i → nd (ens1 (up2 A 50 n 1) n i) n 94 = 0 → 0 < fre (ens1 (up2 A 50 n 1) n i)) (ho : hasA A n i = 0 → ensOk (ens2 (ens1 (up2 A 50 n 1) n i) n i) n i) : wp (FR b0) σ (m_X12_ensure b0 fu (b0 + 35) (nI n) (nI i) σ) (fun _ τ => RM b0 J τ (ensA A n i) (N + ensC A n i)) := by
  have L := h.ra.lay
  have l1 := has_le h.ok (n := n) (i := i) hn hi
  refine wp_grw (FR_good b0) ?_
  rw [ckR_35 L, has_eq h.ra h.ok hn hi, cll_some]
  show wp (FR b0) σ (if nI (hasA A n i) = nI 0 then _ else _) _
  rw [if_e (by omega) (by omega)]
  by_cases z : hasA A n i = 0
  · rw [if_pos z]
    have hc : RM b0 J (sI σ (b0 + 50) n (vp_nar .boolean (1 : Int32))) (up2 A 50 n 1) N := RM_fix (x := 1) h (o := 50) (j := n) rfl (by decide) rfl (by decide)
    have ez : ensA A n i = ens4 (ens3 (ens2 (ens1 (up2 A 50 n 1) n i) n i) n i) n i := if_neg (fun q => q z)
    have eC : ensC A n i = 5 + ec1 (up2 A 50 n 1) n i + ec2 (ens1 (up2 A 50 n 1) n i) n i + ec3 (ens2 (ens1 (up2 A 50 n 1) n i) n i) n i := if_neg (fun q => q z)
    have Sc : okS (up2 A 50 n 1) := hS
    have n93 : nd (up2 A 50 n 1) n 93 = nd A n 93 := up2_o (by decide)
    have b93 : nd A n 93 < 2147483648 := bd_36 h.ra _
    have h2' := h2 z
    have ho' := ho z
    rw [ez, eC]
    simp (disch := first | assumption | omega) only [lits, nI_add, pk_mul, ofi, nI_cl, nI_eqP, nI_leP, nI_ltP, nI_dv, nI_md, nI_sb, ckI_n, ckR_35 L, osm_p (rfR_35_25 L), ckR_50 L]
    refine wp_from (σ1 := sI σ (b0 + 50) n (vp_nar .boolean (1 : Int32))) (FR_good b0) (FR_sI (refO_f 50 (by omega) (by omega))) ?_
    by_cases e8 : i < 8
    · rw [if_pos e8]
      have e1 : ens1 (up2 A 50 n 1) n i = up2 A 50 n 1 := if_neg (by omega)
      have q1 : ec1 (up2 A 50 n 1) n i = 0 := if_neg (by omega)
      rw [e1] at h2' ho' ⊢
      exact mwp (ens53 hc (by omega) Sc (show A 35 34 + 2 < 1000000 by omega) hu hn hi h2' ho') fun v ρ q => RM_le q (by omega)
    · rw [if_neg e8]
      by_cases e40 : 40 ≤ i
      · rw [if_pos e40]
        have e1 : ens1 (up2 A 50 n 1) n i = up2 A 50 n 1 := if_neg (by omega)
        have q1 : ec1 (up2 A 50 n 1) n i = 0 := if_neg (by omega)
        rw [e1] at h2' ho' ⊢
        exact mwp (ens53 hc (by omega) Sc (show A 35 34 + 2 < 1000000 by omega) hu hn hi h2' ho') fun v ρ q => RM_le q (by omega)
      · rw [if_neg e40]
        show wp (FR b0) _ (cll (m_X12_node b0 fu (b0 + 35) (nI n) (nI 93) (sI σ (b0 + 50) n (vp_nar .boolean (1 : Int32)))) _) _
        rw [node_eq hc.ra hn (by omega), cll_some]
        show wp (FR b0) _ (if nI (nd A n 93) = nI 0 then _ else _) _
        rw [if_e b93 (by omega)]
        by_cases z3 : nd A n 93 = 0
        · rw [if_pos z3, ckR_35 hc.ra.lay]
          have e1 : ens1 (up2 A 50 n 1) n i = attN (up2 A 50 n 1) n 93 true := if_pos ⟨by omega, by omega, n93.trans z3⟩
          have q1 : ec1 (up2 A 50 n 1) n i = 5 := if_pos ⟨by omega, by omega, n93.trans z3⟩
          refine attN_wp (me := true) (w := 93) hc (h1 z (by omega) (by omega) z3) (by omega) Sc hu hn (by omega) (by omega) fun v ρ h3 => ?_
          rw [← e1] at h3
          have S3 : okS (ens1 (up2 A 50 n 1) n i) := by rw [e1]; exact okS_35 (A := up2 A 50 n 1) ⟨hS.1, hS.2.1, show A 35 34 + 1 < 1000000 by omega⟩ (attN_35 _ _ _ _)
          have s3 : ens1 (up2 A 50 n 1) n i 35 34 = A 35 34 + 1 := by rw [e1, attN_35, if_pos rfl]; rfl
          exact mwp (ens53 h3 (by omega) S3 (by omega) hu hn hi h2' ho') fun v ρ q => RM_le q (by omega)
        · rw [if_neg z3]
          have e1 : ens1 (up2 A 50 n 1) n i = up2 A 50 n 1 := if_neg (fun q => z3 (n93.symm.trans q.2.2))
          have q1 : ec1 (up2 A 50 n 1) n i = 0 := if_neg (fun q => z3 (n93.symm.trans q.2.2))
          rw [e1] at h2' ho' ⊢
          exact mwp (ens53 hc (by omega) Sc (show A 35 34 + 2 < 1000000 by omega) hu hn hi h2' ho') fun v ρ q => RM_le q (by omega)
  · rw [if_neg z]
    have ez : ensA A n i = A := if_pos z
    have eC : ensC A n i = 0 := if_pos z
    rw [ez, eC]
    exact wp_ret ((FR_good b0).1 _) (RM_le h (by omega))
theorem ensC_le (A : Nat → Nat → Nat) (n i : Nat) : ensC A n i ≤ 20 := by
  unfold ensC ec1 ec2 ec3
  split
  · omega
  · split <;> split <;> split <;> omega
theorem ensure_wp (h : RM b0 J σ A N) (hN : N + 19 < 65536) (hS : okS A) (hs : A 35 34 + 3 < 1000000) (hu : 3000 ≤ fu) {n i : Nat} (hn : n < 64) (hi : i < 1064)
    (h1 : hasA A n i = 0 → 8 ≤ i → i < 40 → nd A n 93 = 0 → 0 < fre (up2 A 50 n 1)) (h2 : hasA A n i = 0 → 40 ≤ i → nd (ens1 (up2 A 50 n 1) n i) n 94 = 0 → 0 < fre (ens1 (up2 A 50 n 1) n i)) (ho : hasA A n i = 0 → ensOk (ens2 (ens1 (up2 A 50 n 1) n i) n i) n i) : wp (FR b0) σ (m_X12_ensure b0 fu (b0 + 35) (nI n) (nI i) σ) (fun _ τ => RM b0 J τ (ensA A n i) (N + 20)) := by
  have := ensC_le A n i
  exact mwp (ensure_c h hN hS hs hu hn hi h1 h2 ho) fun v ρ q => RM_le q (by omega)
end RE2
