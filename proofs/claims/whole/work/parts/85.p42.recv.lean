/-! ===== PURE: the reference recovers ===== -/
/-- a list's blocks marked with v -/
def byL (J : tJ) (v st : Nat) : Nat → Nat → tS → tS
  | _, 0, A => A
  | i, n + 1, A => byL J v st (i + 1) n (up2 A 69 (J.1 44 (st + i)) v)
/-- blocks that the transactions from the k-th on, m of them, put to their places -/
def byN (J : tJ) (ba : Nat) : Nat → Nat → tS → tS
  | _, 0, A => A
  | k, m + 1, A => byN J ba (k + 1) m (byL J 0 (J.1 41 k + J.1 42 k) 0 (J.1 43 k) (byL J (ba + k + 1) (J.1 41 k) 0 (J.1 42 k) A))
/-- versions of all marked blocks -/
def byX : Nat → Nat → tS → tS ⊕ tS
  | _, 0, A => .inl A
  | b, m + 1, A => if A 69 b = 0 then byX (b + 1) m A else bX (verX A b 0 0) (byX (b + 1) m)
def rvF (A : tS) : Nat := if A 39 0 = 1 then A 40 0 else 0
def rv1 (A : tS) : tS := up2 (kcA A) 35 18 1
/-- how far the transactions are whole, from the k-th on -/
def rvT (A : tS) (J : tJ) (k : Nat) : Nat := sr (fun k => !whJ A J k) k (J.2.1 + 1 - k)
def rv2 (A : tS) (J : tJ) (fr to : Nat) : tS := byN J (A 35 35) (fr - A 35 35) (to - fr) (fl 69 0 0 6200 A)
def rv3 (A : tS) (to : Nat) : tS ⊕ tS := bX (fluX A) (fun B => bX (verX B 0 1 to) (fun C => fluX C))
def rvX (A : tS) (J : tJ) (fr to : Nat) : tS ⊕ tS := bX (byX 0 (blk A) (rv2 A J fr to)) (fun B => rv3 B to)
section RW6
variable {b0 fu : Nat} {σ τ : tM} {A B U : tS} {N K K' : Nat} {J : tJ}
theorem rec32 (h : RM b0 J σ A N) (h6 : 1 ≤ A 35 6 ∧ A 35 6 ≤ 4096) (hb : ∀ k, k < J.2.1 → J.1 38 k < 1000000 ∧ J.1 39 k < 1000000) (hx : A 35 35 < 100000) (hn : J.2.1 < 100000) (hu : 1200000 ≤ fu) {fr : Nat} : ∀ m k f, k + m = J.2.1 + 1 → 0 < m → m < f → L_X12_recovery_32 b0 fu f (b0 + 35) (nI fr) (nI (A 35 35 + k)) σ = L_X12_recovery_50 b0 fu fu (b0 + 35) (nI fr) (nI (A 35 35 + sr (fun k => !whJ A J k) k m)) 0 σ := by
  have L := h.ra.lay
  intro m
  induction m with
  | zero => intro k f _ h0; omega
  | succ m ih =>
    intro k f hk _ hf
    obtain ⟨f, rfl⟩ : ∃ q, f = q + 1 := ⟨f - 1, by omega⟩
    unfold L_X12_recovery_32
    rw [ltb_def, ckR_35 L, nI_1, isWhole_eq h h6 hb (by omega) hu, cll_some]
    cases e : whJ A J k with
    | false =>
      rw [if_pos (show nI (b2n false) = 0 from rfl)]
      have : sr (fun k => !whJ A J k) k (m + 1) = k := by simp [sr, e]
      rw [this]
    | true =>
      have hk2 : k < J.2.1 := by
        have := of_decide_eq_true e
        exact this.1
      rw [if_neg (show ¬ nI (b2n true) = 0 by decide), ltb_def, ofi, Nat.add_assoc, ih (k + 1) f (by omega) (by omega) (by omega)]
      have : sr (fun k => !whJ A J k) k (m + 1) = sr (fun k => !whJ A J k) (k + 1) m := by simp [sr, e]
      rw [this]
theorem rec50 {fr to : Nat} : ∀ m k f σ A, RM b0 J σ A N → k + m = 6200 → m < f → ∃ τ, L_X12_recovery_50 b0 fu f (b0 + 35) (nI fr) (nI to) (nI k) σ = L_X12_recovery_76 b0 fu fu (b0 + 35) (nI fr) (nI to) (nI (fr + 1)) τ ∧ FR b0 σ τ ∧ RM b0 J τ (fl 69 0 k m A) N := by
  intro m
  induction m with
  | zero =>
    intro k f σ A h hk hf
    obtain ⟨f, rfl⟩ : ∃ q, f = q + 1 := ⟨f - 1, by omega⟩
    have L := h.ra.lay
    refine ⟨σ, ?_, (FR_good b0).1 _, h⟩
    unfold L_X12_recovery_50
    rw [ltb_def, ckR_35 L, osm_p (rfR_35_55 L), ckR_69 L, if_l (by omega) (by omega), if_pos (show 6200 ≤ k by omega), ltb_def, nI_1]
  | succ m ih =>
    intro k f σ A h hk hf
    obtain ⟨f, rfl⟩ : ∃ q, f = q + 1 := ⟨f - 1, by omega⟩
    have L := h.ra.lay
    have h1 : RM b0 J (sI σ (b0 + 69) k 0) (up2 A 69 k 0) N := RM_fix (x := 0) h (o := 69) rfl (by decide) rfl (by decide)
    obtain ⟨τ, t1, t2, t3⟩ := ih (k + 1) f _ _ h1 (by omega) (by omega)
    refine ⟨τ, ?_, (FR_good b0).2.1 _ _ _ (FR_sI (refO_f 69 (by omega) (by omega))) t2, t3⟩
    unfold L_X12_recovery_50
    rw [ltb_def, ckR_35 L, osm_p (rfR_35_55 L), ckR_69 L, if_l (by omega) (by omega), if_neg (show ¬ 6200 ≤ k by omega), osm_p (rfR_35_55 L), ckR_69 L, ckI_n (by omega) (by omega), ltb_def, ofi, nI_cl (by omega)]
    exact t1
theorem rec94 {fr to t k : Nat} {rc} (hk : k < J.2.1) (hj : J.1 41 k + J.1 42 k + J.1 43 k ≤ J.2.2.1) (hb : ∀ q, q < J.2.2.1 → J.1 44 q < 6200) (ht : t < 2147483648) : ∀ n i f σ A, RM b0 J σ A N → i + n = J.1 42 k → n < f → ∃ τ, L_X12_recovery_94 b0 fu rc f (b0 + 35) (nI fr) (nI to) (nI t) (nI k) (nI i) σ = L_X12_recovery_136 b0 fu rc fu (b0 + 35) (nI fr) (nI to) (nI t) (nI k) 0 τ ∧ FR b0 σ τ ∧ RM b0 J τ (byL J t (J.1 41 k) i n A) N := by
  intro n
  induction n with
  | zero =>
    intro i f σ A h hi hf
    obtain ⟨f, rfl⟩ : ∃ q, f = q + 1 := ⟨f - 1, by omega⟩
    have L := h.ra.lay
    have nb := (h.nr).2.2
    obtain ⟨a2, n2, r1, r2, r3, r4, r5, r6, r7⟩ := h.dy (f := 42) (k := k) (by omega) (by omega) hk
    refine ⟨σ, ?_, (FR_good b0).1 _, h⟩
    unfold L_X12_recovery_94
    rw [ltb_def, ckR_35 L, osm_p r1, ckR_p r2 r3, ckI_n r4 r5, nI_cl (by omega), r6, if_l (by omega) (by omega), if_pos (show J.1 42 k ≤ i by omega)]
  | succ n ih =>
    intro i f σ A h hi hf
    obtain ⟨f, rfl⟩ : ∃ q, f = q + 1 := ⟨f - 1, by omega⟩
    have L := h.ra.lay
    have nb := (h.nr).2.2
    obtain ⟨a2, n2, r1, r2, r3, r4, r5, r6, r7⟩ := h.dy (f := 42) (k := k) (by omega) (by omega) hk
    obtain ⟨a1, n1, q1, q2, q3, q4, q5, q6, q7⟩ := h.dy (f := 41) (k := k) (by omega) (by omega) hk
    obtain ⟨a4, n4, s1, s2, s3, s4, s5, s6, s7⟩ := h.dl (k := J.1 41 k + i) (by omega)
    have hbb := hb (J.1 41 k + i) (by omega)
    have h1 : RM b0 J (sI σ (b0 + 69) (J.1 44 (J.1 41 k + i)) (nI t)) (up2 A 69 (J.1 44 (J.1 41 k + i)) t) N := RM_fix (x := t) h (o := 69) rfl (by decide) rfl ht
    obtain ⟨τ, t1, t2, t3⟩ := ih (i + 1) f _ _ h1 (by omega) (by omega)
    refine ⟨τ, ?_, (FR_good b0).2.1 _ _ _ (FR_sI (refO_f 69 (by omega) (by omega))) t2, t3⟩
    unfold L_X12_recovery_94
    rw [ltb_def, ckR_35 L, osm_p r1, ckR_p r2 r3, ckI_n r4 r5, nI_cl (by omega), r6, if_l (by omega) (by omega), if_neg (show ¬ J.1 42 k ≤ i by omega), osm_p (rfR_35_55 L), osm_p s1, osm_p q1, ckR_p q2 q3, ckI_n q4 q5, ckR_p s2 s3, q6, nI_add, ckI_n s4 s5, nI_cl (by omega), s6, ckR_69 L, ckI_n hbb (by omega), ltb_def, ofi, nI_cl (by omega)]
    exact t1
theorem rec136 {fr to t k : Nat} {rc} (hk : k < J.2.1) (hj : J.1 41 k + J.1 42 k + J.1 43 k ≤ J.2.2.1) (hb : ∀ q, q < J.2.2.1 → J.1 44 q < 6200) : ∀ n i f σ A, RM b0 J σ A N → i + n = J.1 43 k → n < f → ∃ τ, L_X12_recovery_136 b0 fu rc f (b0 + 35) (nI fr) (nI to) (nI t) (nI k) (nI i) σ = rc (b0 + 35) (nI fr) (nI to) (nI (t + 1)) τ ∧ FR b0 σ τ ∧ RM b0 J τ (byL J 0 (J.1 41 k + J.1 42 k) i n A) N := by
  intro n
  induction n with
  | zero =>
    intro i f σ A h hi hf
    obtain ⟨f, rfl⟩ : ∃ q, f = q + 1 := ⟨f - 1, by omega⟩
    have L := h.ra.lay
    have nb := (h.nr).2.2
    obtain ⟨a2, n2, r1, r2, r3, r4, r5, r6, r7⟩ := h.dy (f := 43) (k := k) (by omega) (by omega) hk
    refine ⟨σ, ?_, (FR_good b0).1 _, h⟩
    unfold L_X12_recovery_136
    rw [ltb_def, ckR_35 L, osm_p r1, ckR_p r2 r3, ckI_n r4 r5, nI_cl (by omega), r6, if_l (by omega) (by omega), if_pos (show J.1 43 k ≤ i by omega), ltb_def, ofi]
  | succ n ih =>
    intro i f σ A h hi hf
    obtain ⟨f, rfl⟩ : ∃ q, f = q + 1 := ⟨f - 1, by omega⟩
    have L := h.ra.lay
    have nb := (h.nr).2.2
    obtain ⟨a3, n3, p1, p2, p3, p4, p5, p6, p7⟩ := h.dy (f := 43) (k := k) (by omega) (by omega) hk
    obtain ⟨a2, n2, r1, r2, r3, r4, r5, r6, r7⟩ := h.dy (f := 42) (k := k) (by omega) (by omega) hk
    obtain ⟨a1, n1, q1, q2, q3, q4, q5, q6, q7⟩ := h.dy (f := 41) (k := k) (by omega) (by omega) hk
    obtain ⟨a4, n4, s1, s2, s3, s4, s5, s6, s7⟩ := h.dl (k := J.1 41 k + J.1 42 k + i) (by omega)
    have hbb := hb (J.1 41 k + J.1 42 k + i) (by omega)
    have h1 : RM b0 J (sI σ (b0 + 69) (J.1 44 (J.1 41 k + J.1 42 k + i)) 0) (up2 A 69 (J.1 44 (J.1 41 k + J.1 42 k + i)) 0) N := RM_fix (x := 0) h (o := 69) rfl (by decide) rfl (by decide)
    obtain ⟨τ, t1, t2, t3⟩ := ih (i + 1) f _ _ h1 (by omega) (by omega)
    refine ⟨τ, ?_, (FR_good b0).2.1 _ _ _ (FR_sI (refO_f 69 (by omega) (by omega))) t2, t3⟩
    unfold L_X12_recovery_136
    rw [ltb_def, ckR_35 L, osm_p p1, ckR_p p2 p3, ckI_n p4 p5, nI_cl (by omega), p6, if_l (by omega) (by omega), if_neg (show ¬ J.1 43 k ≤ i by omega), osm_p (rfR_35_55 L), osm_p s1, osm_p q1, ckR_p q2 q3, ckI_n q4 q5, osm_p r1, ckR_p r2 r3, ckI_n r4 r5, ckR_p s2 s3, q6, r6, nI_add, nI_add, ckI_n s4 s5, nI_cl (by omega), s6, ckR_69 L, ckI_n hbb (by omega), ltb_def, ofi, nI_cl (by omega)]
    exact t1
theorem byL_o {v st o j : Nat} (h : o ≠ 69) : ∀ n i A, byL J v st i n A o j = A o j
  | 0, _, _ => rfl
  | n + 1, i, A => by unfold byL; rw [byL_o h n, up2_o h]
theorem byN_o {ba o j : Nat} (h : o ≠ 69) : ∀ m k A, byN J ba k m A o j = A o j
  | 0, _, _ => rfl
  | m + 1, k, A => by unfold byN; rw [byN_o h m, byL_o h, byL_o h]
theorem rec76 {fr to ba : Nat} (hj : ∀ i, i < J.2.1 → J.1 41 i + J.1 42 i + J.1 43 i ≤ J.2.2.1) (hb : ∀ q, q < J.2.2.1 → J.1 44 q < 6200) (hx : to < 1000000) (hu : 600000 ≤ fu) : ∀ m k f σ A, RM b0 J σ A N → A 35 35 = ba → ba + k + m = to → k + m ≤ J.2.1 → m < f → ∃ τ, L_X12_recovery_76 b0 fu f (b0 + 35) (nI fr) (nI to) (nI (ba + k + 1)) σ = J_X12_recovery_189 b0 fu (b0 + 35) (nI fr) (nI to) τ ∧ FR b0 σ τ ∧ RM b0 J τ (byN J ba k m A) N := by
  intro m
  induction m with
  | zero =>
    intro k f σ A h hba hk hn hf
    obtain ⟨f, rfl⟩ : ∃ q, f = q + 1 := ⟨f - 1, by omega⟩
    refine ⟨σ, ?_, (FR_good b0).1 _, h⟩
    unfold L_X12_recovery_76
    rw [ltb_def, if_t (by omega) (by omega), if_pos (show to < ba + k + 1 by omega)]
  | succ m ih =>
    intro k f σ A h hba hk hn hf
    obtain ⟨f, rfl⟩ : ∃ q, f = q + 1 := ⟨f - 1, by omega⟩
    have L := h.ra.lay
    have nb := (h.nr).2.2
    have hjk := hj k (by omega)
    obtain ⟨τ1, a1, a2, a3⟩ := rec94 (b0 := b0) (fu := fu) (fr := fr) (to := to) (t := ba + k + 1) (k := k) (rc := L_X12_recovery_76 b0 fu f) (by omega) hjk hb (by omega) (J.1 42 k) 0 fu σ A h (by omega) (by omega)
    obtain ⟨τ2, c1, c2, c3⟩ := rec136 (b0 := b0) (fu := fu) (fr := fr) (to := to) (t := ba + k + 1) (k := k) (rc := L_X12_recovery_76 b0 fu f) (by omega) hjk hb (J.1 43 k) 0 fu τ1 _ a3 (by omega) (by omega)
    obtain ⟨τ3, d1, d2, d3⟩ := ih (k + 1) f τ2 _ c3 (by rw [byL_o (by decide), byL_o (by decide)]; exact hba) (by omega) (by omega) (by omega)
    refine ⟨τ3, ?_, (FR_good b0).2.1 _ _ _ a2 ((FR_good b0).2.1 _ _ _ c2 d2), d3⟩
    have e1 : nI (ba + k + 1) - nI ba - 1 = nI k := by
      rw [nI_sb (by omega), show nI (ba + k + 1 - ba) - 1 = nI (ba + k + 1 - ba - 1) from nI_sb (b := 1) (by omega)]
      congr 1; omega
    unfold L_X12_recovery_76
    rw [ltb_def, if_t (by omega) (by omega), if_neg (show ¬ to < ba + k + 1 by omega), ckR_35 L, rf_35 h.ra, hba, e1, ltb_def]
    show L_X12_recovery_94 b0 fu (L_X12_recovery_76 b0 fu f) fu (b0 + 35) (nI fr) (nI to) (nI (ba + k + 1)) (nI k) (nI 0) σ = _
    rw [a1]
    show L_X12_recovery_136 b0 fu (L_X12_recovery_76 b0 fu f) fu (b0 + 35) (nI fr) (nI to) (nI (ba + k + 1)) (nI k) (nI 0) τ1 = _
    rw [c1, show ba + k + 1 + 1 = ba + (k + 1) + 1 by omega, d1]
end RW6
