/-! ===== PURE: the reference's flush ===== -/
abbrev tP : Type := tS × tJ
def bP (x : tP ⊕ tP) (f : tP → tP ⊕ tP) : tP ⊕ tP := match x with | .inl s => f s | .inr s => .inr s
def lP (J : tJ) (x : tS ⊕ tS) : tP ⊕ tP := match x with | .inl A => .inl (A, J) | .inr A => .inr (A, J)
def RY (b0 N : Nat) (v : Unit ⊕ Unit) (τ : tM) (x : tP ⊕ tP) : Prop := match x with
  | .inl s => v = .inl () ∧ RM b0 s.2 τ s.1 N
  | .inr s => v = .inr () ∧ RM b0 s.2 τ s.1 N
/-- retired blocks become free -/
def rt (d : Nat) : Nat → Nat → tS → tS
  | _, 0, A => A
  | k, m + 1, A => rt d (k + 1) m (if 1 < A 49 k ∧ A 49 k - 1 ≤ d then up2 A 49 k 0 else A)
theorem rt_at (d : Nat) : ∀ m k A o j, rt d k m A o j = if o = 49 ∧ k ≤ j ∧ j < k + m ∧ 1 < A 49 j ∧ A 49 j - 1 ≤ d then 0 else A o j
  | 0, k, A, o, j => by unfold rt; rw [if_neg (by omega)]
  | m + 1, k, A, o, j => by
    unfold rt
    rw [rt_at d m (k + 1)]
    by_cases e : 1 < A 49 k ∧ A 49 k - 1 ≤ d
    · rw [if_pos e]
      unfold up2
      by_cases ho : o = 49
      · subst ho
        by_cases q : j = k
        · subst q
          rw [if_neg (by omega)]
          simp [e]
        · simp only [if_true, if_neg q]
          by_cases w : k + 1 ≤ j ∧ j < k + 1 + m ∧ 1 < A 49 j ∧ A 49 j - 1 ≤ d
          · rw [if_pos ⟨trivial, w⟩, if_pos ⟨trivial, by omega, by omega, w.2.2⟩]
          · rw [if_neg (fun z => w z.2), if_neg (fun z => w ⟨by omega, by omega, z.2.2.2⟩)]
      · simp [ho]
    · rw [if_neg e]
      by_cases w : o = 49 ∧ k + 1 ≤ j ∧ j < k + 1 + m ∧ 1 < A 49 j ∧ A 49 j - 1 ≤ d
      · rw [if_pos w, if_pos ⟨w.1, by omega, by omega, w.2.2.2⟩]
      · rw [if_neg w, if_neg]
        rintro ⟨z1, z2, z3, z4⟩
        by_cases q : j = k
        · subst q; exact e z4
        · exact w ⟨z1, by omega, by omega, z4⟩
def fl0 (A : tS) : tS := up2 (up2 A 35 29 (A 35 28)) 35 32 (A 35 31)
def fl1 (A : tS) : tS := rt (A 35 28) 0 (A 35 7) (fl0 A)
def fl2_ (A : tS) (J : tJ) : tP ⊕ tP := if A 35 30 ≤ A 35 31 then .inl (A, J) else lP J (verX (up2 A 35 31 (A 35 30)) 0 1 (A 35 30))
def flushX (A : tS) (J : tJ) : tP ⊕ tP := bP (lP J (fluX A)) (fun s => fl2_ (fgA (fl1 s.1) J) (fgJ (fl1 s.1) J))
/-- what the journal's numbers must be -/
def jw (A : tS) (J : tJ) : Prop :=
  1 ≤ A 35 6 ∧ A 35 35 ≤ A 35 32 ∧ A 35 32 ≤ A 35 31 ∧ A 35 31 ≤ A 35 30 ∧ A 35 30 ≤ A 35 29 ∧ A 35 29 ≤ A 35 28 ∧ A 35 28 - A 35 35 ≤ J.2.1 ∧ J.2.1 < 100 ∧ A 35 28 < 1000000 ∧ (∀ i, J.1 40 i < 1000000000) ∧ (A 35 35 < A 35 28 → ∃ s, J.2.2.2 (J.1 40 (A 35 28 - A 35 35 - 1)) s) ∧
  (∀ i j, i ≤ j → j < J.2.1 → J.1 41 i ≤ J.1 41 j) ∧ (∀ i, i < J.2.1 → J.1 41 i + J.1 42 i + J.1 43 i ≤ J.2.2.1) ∧ (∀ i, i < J.2.1 → J.1 38 i + J.1 39 i < 1000000)
section FL
variable {b0 fu : Nat} {σ τ : tM} {A B U : tS} {N K K' : Nat} {J : tJ}
theorem RX_RY {v : Unit ⊕ Unit} {x : tS ⊕ tS} : RX b0 J N v τ x ↔ RY b0 N v τ (lP J x) := by cases x <;> exact Iff.rfl
theorem wpP {x : Option ((Unit ⊕ Unit) × tM)} {k : Unit → tM → Option ((Unit ⊕ Unit) × tM)} {X : tP ⊕ tP} {f : tP → tP ⊕ tP} (h : wp (FR b0) σ x (fun v τ => RY b0 N v τ X)) (c : ∀ s ρ, X = .inl s → RM b0 s.2 ρ s.1 N → wp (FR b0) ρ (k () ρ) (fun v τ => RY b0 N v τ (f s))) : wp (FR b0) σ (clx x k) (fun v τ => RY b0 N v τ (bP X f)) := by
  cases X with
  | inl s =>
    refine wp_clx (FR_good b0) h (fun v ρ q => c s ρ rfl q.2) (fun ρ q => ?_)
    exact absurd q.1 (fun e => by cases e)
  | inr s =>
    refine wp_clx (FR_good b0) h (fun v ρ q => ?_) (fun ρ q => q)
    exact absurd q.1 (fun e => by cases e)
theorem fl2_wp (h : RM b0 J σ A N) (hd : dsk A (K + 1)) (h28 : A 35 30 < 1000000) (hu : 200000 ≤ fu) : wp (FR b0) σ (ckO b0 σ (b0 + 35) 11 (if tI σ (b0 + 35) 30 ≤ tI σ (b0 + 35) 31 then J_X12_flush_101 b0 fu σ else clx (m_X12_version b0 fu (b0 + 35) 0 1 (tI (sI σ (b0 + 35) 31 (tI σ (b0 + 35) 30)) (b0 + 35) 31) (sI σ (b0 + 35) 31 (tI σ (b0 + 35) 30))) (fun v17 ρ18 => J_X12_flush_101 b0 fu ρ18))) (fun v τ => RY b0 N v τ (fl2_ A J)) := by
  have L := h.ra.lay
  have b31 := bd_35 h.ra 31
  rw [ckR_35 L, rf_30 h.ra, rf_31 h.ra, if_l (by omega) b31]
  unfold fl2_
  by_cases e : A 35 30 ≤ A 35 31
  · rw [if_pos e, if_pos e]
    exact wp_ret ((FR_good b0).1 _) ⟨rfl, h⟩
  · rw [if_neg e, if_neg e]
    have h1 : RM b0 J (sI σ (b0 + 35) 31 (nI (A 35 30))) (up2 A 35 31 (A 35 30)) N := RM_fix h rfl (by decide) rfl (by show _ < 2147483648; omega)
    have hd1 : dsk (up2 A 35 31 (A 35 30)) (K + 1) := hd
    rw [rd_IIs]
    refine wp_from (σ1 := sI σ (b0 + 35) 31 (nI (A 35 30))) (FR_good b0) (FR_sI (refO_f 35 (by omega) (by omega))) ?_
    have := version_wp (b := 0) (wh := 1) (id := A 35 30) h1 hd1 (by omega) (by omega) (by omega) (by omega) (by omega : 10000 ≤ fu)
    have e2 : lP J (verX (up2 A 35 31 (A 35 30)) 0 1 (A 35 30)) = bP (lP J (verX (up2 A 35 31 (A 35 30)) 0 1 (A 35 30))) (fun s => .inl s) := by
      cases verX (up2 A 35 31 (A 35 30)) 0 1 (A 35 30) <;> rfl
    rw [e2]
    exact wpP (mwp this fun v ρ q => RX_RY.mp q) fun s ρ e3 h3 => wp_ret ((FR_good b0).1 _) ⟨rfl, h3⟩
theorem flush22 (hu : 200000 ≤ fu) : ∀ m k f σ A, RM b0 J σ A N → k + m = A 35 7 → A 35 7 ≤ 2000 → m < f → A 35 29 < 1000000 → ∃ τ, L_X12_flush_22 b0 fu f (b0 + 35) (nI k) σ = L_X12_flush_22 b0 fu (f - m) (b0 + 35) (nI (k + m)) τ ∧ FR b0 σ τ ∧ RM b0 J τ (rt (A 35 29) k m A) N := by
  intro m
  induction m with
  | zero =>
    intro k f σ A h hk h7 hf h29
    exact ⟨σ, rfl, (FR_good b0).1 _, h⟩
  | succ m ih =>
    intro k f σ A h hk h7 hf h29
    obtain ⟨f, rfl⟩ : ∃ q, f = q + 1 := ⟨f - 1, by omega⟩
    have L := h.ra.lay
    have b49 := bd_49 h.ra k
    by_cases e : 1 < A 49 k ∧ A 49 k - 1 ≤ A 35 29
    · have h1 : RM b0 J (sI σ (b0 + 49) k 0) (up2 A 49 k 0) N := RM_fix (x := 0) h (o := 49) rfl (by decide) rfl (by decide)
      obtain ⟨τ, t1, t2, t3⟩ := ih (k + 1) f _ _ h1 (by show k + 1 + m = A 35 7; omega) h7 (by omega) h29
      refine ⟨τ, ?_, (FR_good b0).2.1 _ _ _ (FR_sI (refO_f 49 (by omega) (by omega))) t2, ?_⟩
      · have e0 : L_X12_flush_22 b0 fu (f + 1) (b0 + 35) (nI k) σ = L_X12_flush_22 b0 fu f (b0 + 35) (nI (k + 1)) (sI σ (b0 + 49) k 0) := by
          conv => lhs; unfold L_X12_flush_22
          unfold J_X12_flush_62
          simp only [ltb_def, ofi]
          rw [ckR_35 L, rf_7 h.ra, if_l (by omega) (by omega), if_neg (show ¬ A 35 7 ≤ k by omega), osm_p (rfR_35_24 L), ckR_49 L, ckI_n (by omega) (by omega), nI_cl (by omega), rd_49 h.ra, show (1 : Int32) = nI 1 from rfl, if_l (by omega) (by omega), if_neg (show ¬ A 49 k ≤ 1 by omega), osm_p (rfR_35_24 L), ckR_49 L, ckI_n (by omega) (by omega), rf_29 h.ra, rd_49 h.ra, nI_sb (by omega), if_t (by omega) (by omega), if_neg (show ¬ A 35 29 < A 49 k - 1 by omega), osm_p (rfR_35_24 L), ckR_49 L, ckI_n (by omega) (by omega)]
        rw [e0, t1, show k + 1 + m = k + (m + 1) by omega, show f + 1 - (m + 1) = f - m by omega]
      · unfold rt
        rw [if_pos e]
        exact t3
    · obtain ⟨τ, t1, t2, t3⟩ := ih (k + 1) f σ A h (by omega) h7 (by omega) h29
      refine ⟨τ, ?_, t2, ?_⟩
      · have e0 : L_X12_flush_22 b0 fu (f + 1) (b0 + 35) (nI k) σ = L_X12_flush_22 b0 fu f (b0 + 35) (nI (k + 1)) σ := by
          conv => lhs; unfold L_X12_flush_22
          unfold J_X12_flush_62
          simp only [ltb_def, ofi]
          rw [ckR_35 L, rf_7 h.ra, if_l (by omega) (by omega), if_neg (show ¬ A 35 7 ≤ k by omega), osm_p (rfR_35_24 L), ckR_49 L, ckI_n (by omega) (by omega), nI_cl (by omega), rd_49 h.ra, show (1 : Int32) = nI 1 from rfl, if_l (by omega) (by omega)]
          by_cases e1 : A 49 k ≤ 1
          · rw [if_pos e1]
          · rw [if_neg e1, osm_p (rfR_35_24 L), ckR_49 L, ckI_n (by omega) (by omega), rf_29 h.ra, rd_49 h.ra, nI_sb (by omega), if_t (by omega) (by omega), if_pos (show A 35 29 < A 49 k - 1 by omega)]
        rw [e0, t1, show k + 1 + m = k + (m + 1) by omega, show f + 1 - (m + 1) = f - m by omega]
      · unfold rt
        rw [if_neg e]
        exact t3
theorem flush_wp (h : RM b0 J σ A N) (hd : dsk A (K + 1)) (hj : ∀ A1, fluX A = .inl A1 → jw (fl0 A1) J ∧ dsk (fgA (fl1 A1) J) (K' + 1)) (hu : 200000 ≤ fu) : wp (FR b0) σ (m_X12_flush b0 fu (b0 + 35) σ) (fun v τ => RY b0 N v τ (flushX A J)) := by
  have L := h.ra.lay
  refine wp_grw (FR_good b0) ?_
  rw [ckR_35 L]
  unfold flushX
  refine wpP (mwp (flushAct_wp h hd (by omega)) fun v ρ q => RX_RY.mp q) fun s ρ e1 h1 => ?_
  have es : s.2 = J ∧ fluX A = .inl s.1 := by
    cases hx : fluX A with
    | inl B => rw [hx] at e1; cases e1; exact ⟨rfl, rfl⟩
    | inr B => rw [hx] at e1; cases e1
  obtain ⟨es, ef⟩ := es
  rw [es] at h1
  obtain ⟨hj1, hd2⟩ := hj s.1 ef
  generalize s.1 = A1 at h1 hj1 hd2 ef
  have L1 := h1.ra.lay
  rw [ckR_35 L1, rf_28 h1.ra]
  have h2 : RM b0 J (sI ρ (b0 + 35) 29 (nI (A1 35 28))) (up2 A1 35 29 (A1 35 28)) N := RM_fix h1 rfl (by decide) rfl (bd_35 h1.ra 28)
  rw [rf_31 h2.ra, show up2 A1 35 29 (A1 35 28) 35 31 = A1 35 31 from rfl]
  have h3 : RM b0 J (sI (sI ρ (b0 + 35) 29 (nI (A1 35 28))) (b0 + 35) 32 (nI (A1 35 31))) (fl0 A1) N := RM_fix h2 rfl (by decide) rfl (bd_35 h1.ra 31)
  refine wp_from (σ1 := sI (sI ρ (b0 + 35) 29 (nI (A1 35 28))) (b0 + 35) 32 (nI (A1 35 31))) (FR_good b0) ((FR_good b0).2.1 _ _ _ (FR_sI (refO_f 35 (by omega) (by omega))) (FR_sI (refO_f 35 (by omega) (by omega)))) ?_
  have f7 : fl0 A1 35 7 = A1 35 7 := rfl
  have f29 : fl0 A1 35 29 = A1 35 28 := rfl
  have f28 : fl0 A1 35 28 = A1 35 28 := rfl
  obtain ⟨j1, j2, j3, j4, j5, j6, j7, j8, j9, j10, j11, j12, j13, j14⟩ := hj1
  rw [f28] at j9
  have r7 : A1 35 7 ≤ 2000 := by
    have := hd2.2.1
    have e7 : fgA (fl1 A1) J 35 7 = A1 35 7 := by
      have e8 : fl1 A1 35 7 = A1 35 7 := by unfold fl1; rw [rt_at, if_neg (by omega)]; rfl
      unfold fgA
      split
      · unfold fgA2
        rw [up2_j (by decide), up2_j (by decide)]
        exact e8
      · exact e8
    omega
  obtain ⟨τ, t1, t2, t3⟩ := flush22 (fu := fu) hu (A1 35 7) 0 fu _ _ h3 (by rw [f7]; omega) (by rw [f7]; exact r7) (by omega) (by rw [f29]; exact j9)
  show wp (FR b0) _ (L_X12_flush_22 b0 fu fu (b0 + 35) (nI 0) _) _
  rw [t1]
  refine wp_from (FR_good b0) t2 ?_
  rw [f29] at t3
  have t4 : RM b0 J τ (fl1 A1) N := t3
  have g35 : ∀ j, fl1 A1 35 j = fl0 A1 35 j := fun j => by unfold fl1; rw [rt_at, if_neg (by omega)]
  have L4 := t4.ra.lay
  obtain ⟨f, hf⟩ : ∃ q, fu - A1 35 7 = q + 1 := ⟨fu - A1 35 7 - 1, by omega⟩
  rw [hf]
  unfold L_X12_flush_22
  rw [ltb_def, ckR_35 L4, rf_7 t4.ra, g35, f7, if_l (by omega) (by omega), if_pos (show A1 35 7 ≤ 0 + A1 35 7 by omega)]
  refine wp_bind (FR_good b0) (forget_wp t4 (by rw [g35]; exact j1) (by rw [g35, g35]; exact j2) (by rw [g35, g35]; omega) (by rw [g35, g35]; exact j7) (by omega) (fun i w1 w2 => ?_) ?_ (fun w => j14 _ ?_) (by rw [g35]; exact j9) j10 (by rw [g35, g35]; exact j11) hu) fun _ ρ2 h5 => ?_
  · rw [g35, g35] at w1 ⊢
    unfold fiJ
    split
    · exact j12 _ i w1 w2
    · omega
  · rw [g35, g35]
    unfold fiJ
    split
    · rename_i w; have := j13 _ w; omega
    · exact Nat.le_refl _
  · rw [g35, g35] at w ⊢; omega
  · refine fl2_wp h5 hd2 ?_ hu
    have e30 : fgA (fl1 A1) J 35 30 = fl0 A1 35 30 := by
      unfold fgA
      split
      · unfold fgA2; rw [up2_j (by decide), up2_j (by decide)]; exact g35 30
      · exact g35 30
    rw [e30]
    rw [f29] at j5
    omega
end FL
