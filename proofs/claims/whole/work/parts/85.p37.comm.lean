/-! ===== PURE: the reference commits ===== -/
def flOk (A : tS) (J : tJ) : Prop := dsk A 1 ∧ ∀ A1, fluX A = .inl A1 → jw (fl0 A1) J ∧ dsk (fgA (fl1 A1) J) 1
def apOk (A : tS) (J : tJ) : Prop := (∀ i, i < J.2.1 → J.1 41 i + J.1 42 i + J.1 43 i ≤ J.2.2.1) ∧ A 35 35 ≤ A 35 30 ∧ A 35 29 < 1000000 ∧ A 35 29 - A 35 35 ≤ J.2.1 ∧ dsk A (J.1 42 (A 35 30 - A 35 35)) ∧ (∀ i, i < J.1 42 (A 35 30 - A 35 35) → J.1 44 (J.1 41 (A 35 30 - A 35 35) + i) < 34 + A 35 6 + A 35 7)
def apN (J : tJ) : Nat → tS → tS ⊕ tS
  | 0, A => .inl A
  | n + 1, A => bX (applyX A J) (apN J n)
def apNok (J : tJ) : Nat → tS → Prop
  | 0, _ => True
  | n + 1, A => apOk A J ∧ A 35 30 < A 35 29 ∧ ∀ B, applyX A J = .inl B → B 35 29 = A 35 29 ∧ B 35 30 = A 35 30 + 1 ∧ apNok J n B
/-- apply all, flush twice -/
def ck2X (A : tS) (J : tJ) : tP ⊕ tP := bP (lP J (apN J (A 35 29 - A 35 30) A)) (fun s => bP (flushX s.1 s.2) (fun s2 => flushX s2.1 s2.2))
def checkX (A : tS) (J : tJ) : tP ⊕ tP := bP (flushX A J) (fun s => ck2X s.1 s.2)
def ck2Ok (A : tS) (J : tJ) : Prop := apNok J (A 35 29 - A 35 30) A ∧ A 35 30 ≤ A 35 29 ∧ A 35 29 < 1000000 ∧ ∀ B, apN J (A 35 29 - A 35 30) A = .inl B → flOk B J ∧ ∀ s, flushX B J = .inl s → flOk s.1 s.2
def ckOk_ (A : tS) (J : tJ) : Prop := flOk A J ∧ ∀ s, flushX A J = .inl s → ck2Ok s.1 s.2
/-- the blocks of a transaction in the log -/
def lgX (size : Nat) : Nat → Nat → tS → tS ⊕ tS
  | _, 0, A => .inl A
  | k, m + 1, A => bX (verX A (34 + (A 35 33 + k) % A 35 6) 2 (A 35 34)) (lgX size (k + 1) m)
/-- this group's retired blocks belong to it -/
def rtc (l : Nat) : Nat → Nat → tS → tS
  | _, 0, A => A
  | k, m + 1, A => rtc l (k + 1) m (if A 49 k = 1 then up2 A 49 k (1 + l) else A)
def cmE (A : tS) (size : Nat) : tS := egA (up2 (up2 A 35 33 ((A 35 33 + size) % A 35 6)) 35 28 (A 35 28 + 1))
def cmF (A : tS) (size : Nat) : tS := rtc (A 35 28 + 1) 0 (A 35 7) (cmE A size)
/-- a transaction of a size: recorded, written, counted -/
def cm1X (A : tS) (J : tJ) (size un : Nat) : tP ⊕ tP := bP (lP (recJ (up2 A 35 34 (A 35 34 + 1)) J size un) (lgX size 0 size (up2 A 35 34 (A 35 34 + 1)))) (fun s => .inl (cmF s.1 size, s.2))
def freA_ (A : tS) (J : tJ) : Nat := A 35 6 - szL J.1 (A 35 32 - A 35 35) (A 35 28 - A 35 32)
def cmX (A : tS) (J : tJ) (un : Nat) : tP ⊕ tP := if gsA A ≤ freA_ A J then cm1X A J (gsA A) un else bP (checkX A J) (fun s => cm1X s.1 s.2 (gsA A) un)
def cm1Ok (A : tS) (J : tJ) (size : Nat) : Prop := J.2.1 < 64 ∧ blk A ≤ 6130 ∧ J.2.2.1 + 2 * blk A < 262144 ∧ A 35 34 + 1 < 1000000 ∧ dsk A (size + 1) ∧ 1 ≤ A 35 6 ∧ A 35 33 < 1000000 ∧ size < 100000 ∧ A 35 28 < 1000000
def cmOk (A : tS) (J : tJ) : Prop := A 35 35 ≤ A 35 32 ∧ A 35 32 ≤ A 35 28 ∧ A 35 28 - A 35 35 ≤ J.2.1 ∧ szL J.1 (A 35 32 - A 35 35) (A 35 28 - A 35 32) ≤ A 35 6 ∧ A 35 6 ≤ 4096 ∧ A 35 28 < 1000000 ∧ J.2.1 < 1000 ∧ (gsA A ≤ freA_ A J → cm1Ok A J (gsA A)) ∧ (¬ gsA A ≤ freA_ A J → ckOk_ A J ∧ ∀ s, checkX A J = .inl s → cm1Ok s.1 s.2 (gsA A))
section CM
variable {b0 fu : Nat} {σ τ : tM} {A B U : tS} {N K K' : Nat} {J : tJ}
theorem flush_wp' (h : RM b0 J σ A N) (ho : flOk A J) (hu : 200000 ≤ fu) : wp (FR b0) σ (m_X12_flush b0 fu (b0 + 35) σ) (fun v τ => RY b0 N v τ (flushX A J)) := flush_wp (K := 0) (K' := 0) h ho.1 ho.2 hu
theorem lP_inl {x : tS ⊕ tS} {s : tP} (h : lP J x = .inl s) : s.2 = J ∧ x = .inl s.1 := by
  cases x with
  | inl B => cases h; exact ⟨rfl, rfl⟩
  | inr B => cases h
theorem check4 (hu : 600000 ≤ fu) : ∀ n f σ A, RM b0 J σ A N → A 35 29 - A 35 30 = n → A 35 30 ≤ A 35 29 → A 35 29 < 1000000 → n < f → apNok J n A → (∀ B, apN J n A = .inl B → flOk B J ∧ ∀ s, flushX B J = .inl s → flOk s.1 s.2) → wp (FR b0) σ (L_X12_checkpoint_4 b0 fu f (b0 + 35) σ) (fun v τ => RY b0 N v τ (bP (lP J (apN J n A)) (fun s => bP (flushX s.1 s.2) (fun s2 => flushX s2.1 s2.2)))) := by
  intro n
  induction n with
  | zero =>
    intro f σ A h hn h30 hx hf ho hfl
    obtain ⟨f, rfl⟩ : ∃ q, f = q + 1 := ⟨f - 1, by omega⟩
    have L := h.ra.lay
    obtain ⟨o1, o2⟩ := hfl A rfl
    unfold L_X12_checkpoint_4
    rw [ltb_def, ckR_35 L, rf_29 h.ra, rf_30 h.ra, if_l (by omega) (by omega), if_pos (show A 35 29 ≤ A 35 30 by omega)]
    show wp (FR b0) σ _ (fun v τ => RY b0 N v τ (bP (flushX A J) (fun s2 => flushX s2.1 s2.2)))
    refine wpP (flush_wp' h o1 (by omega)) fun s ρ e1 h1 => ?_
    rw [ckR_35 h1.ra.lay]
    have e2 : flushX s.1 s.2 = bP (flushX s.1 s.2) (fun s => .inl s) := by cases flushX s.1 s.2 <;> rfl
    rw [e2]
    exact wpP (flush_wp' h1 (o2 s e1) (by omega)) fun s2 ρ2 e3 h2 => wp_ret ((FR_good b0).1 _) ⟨rfl, h2⟩
  | succ n ih =>
    intro f σ A h hn h30 hx hf ho hfl
    obtain ⟨f, rfl⟩ : ∃ q, f = q + 1 := ⟨f - 1, by omega⟩
    have L := h.ra.lay
    obtain ⟨⟨p1, p2, p3, p4, p5, p6⟩, p7, p8⟩ := ho
    unfold L_X12_checkpoint_4
    rw [ltb_def, ckR_35 L, rf_29 h.ra, rf_30 h.ra, if_l (by omega) (by omega), if_neg (show ¬ A 35 29 ≤ A 35 30 by omega)]
    have assoc : bP (lP J (apN J (n + 1) A)) (fun s => bP (flushX s.1 s.2) (fun s2 => flushX s2.1 s2.2)) = bP (lP J (applyX A J)) (fun s => bP (lP J (apN J n s.1)) (fun s => bP (flushX s.1 s.2) (fun s2 => flushX s2.1 s2.2))) := by
      show bP (lP J (bX (applyX A J) (apN J n))) _ = _
      cases applyX A J <;> rfl
    rw [assoc]
    refine wpP (mwp (applyOne_wp (K := 0) h p1 p2 p7 p3 p4 (by rw [Nat.zero_add]; exact p5) p6 hu) fun v ρ q => RX_RY.mp q) fun s ρ e1 h1 => ?_
    obtain ⟨e2, e3⟩ := lP_inl e1
    rw [e2] at h1
    obtain ⟨q1, q2, q3⟩ := p8 s.1 e3
    refine ih f ρ s.1 h1 (by omega) (by omega) (by omega) (by omega) q3 (fun B hB => hfl B ?_)
    show bX (applyX A J) (apN J n) = _
    rw [e3]
    exact hB
theorem checkpoint_wp (h : RM b0 J σ A N) (ho : ckOk_ A J) (hu : 1200000 ≤ fu) : wp (FR b0) σ (m_X12_checkpoint b0 fu (b0 + 35) σ) (fun v τ => RY b0 N v τ (checkX A J)) := by
  have L := h.ra.lay
  obtain ⟨o1, o2⟩ := ho
  refine wp_grw (FR_good b0) ?_
  rw [ckR_35 L]
  unfold checkX
  refine wpP (flush_wp' h o1 (by omega)) fun s ρ e1 h1 => ?_
  obtain ⟨c1, c2, c3, c4⟩ := o2 s e1
  exact check4 (by omega) _ fu ρ s.1 h1 rfl c2 c3 (by omega) c1 c4
theorem com89 {l : Nat} (hu : 200000 ≤ fu) (hl : l ≤ 1000000) : ∀ m k f σ A, RM b0 J σ A N → k + m = A 35 7 → A 35 7 ≤ 2000 → A 35 28 = l → m < f → wp (FR b0) σ (L_X12_commit_89 b0 fu f (b0 + 35) (nI k) σ) (fun v τ => v = .inl () ∧ RM b0 J τ (rtc l k m A) N) := by
  intro m
  induction m with
  | zero =>
    intro k f σ A h hk h7 h28 hf
    obtain ⟨f, rfl⟩ : ∃ q, f = q + 1 := ⟨f - 1, by omega⟩
    have L := h.ra.lay
    unfold L_X12_commit_89
    rw [ltb_def, ckR_35 L, rf_7 h.ra, if_l (by omega) (by omega), if_pos (show A 35 7 ≤ k by omega)]
    exact wp_ret ((FR_good b0).1 _) ⟨rfl, h⟩
  | succ m ih =>
    intro k f σ A h hk h7 h28 hf
    obtain ⟨f, rfl⟩ : ∃ q, f = q + 1 := ⟨f - 1, by omega⟩
    have L := h.ra.lay
    have b49 := bd_49 h.ra k
    unfold L_X12_commit_89 J_X12_commit_119 rtc
    simp only [ltb_def, ofi]
    rw [ckR_35 L, rf_7 h.ra, if_l (by omega) (by omega), if_neg (show ¬ A 35 7 ≤ k by omega), osm_p (rfR_35_24 L), ckR_49 L, ckI_n (by omega) (by omega), nI_cl (by omega), rd_49 h.ra]
    show wp (FR b0) σ (if nI (A 49 k) = nI 1 then _ else _) _
    rw [if_e b49 (by omega)]
    by_cases e : A 49 k = 1
    · rw [if_pos e, if_pos e, osm_p (rfR_35_24 L), ckR_49 L, ckI_n (by omega) (by omega), rf_28 h.ra, show (1 : Int32) + nI (A 35 28) = nI (1 + A 35 28) from nI_add 1 _, h28]
      have h1 : RM b0 J (sI σ (b0 + 49) k (nI (1 + l))) (up2 A 49 k (1 + l)) N := RM_fix h rfl (by decide) rfl (by show _ < 2147483648; omega)
      exact wp_to (FR_good b0) (ih (k + 1) f _ _ h1 (by show k + 1 + m = A 35 7; omega) h7 h28 (by omega)) (FR_sI (refO_f 49 (by omega) (by omega)))
    · rw [if_neg e, if_neg e]
      exact ih (k + 1) f σ A h (by omega) h7 h28 (by omega)
theorem cmE_35 (A : tS) (size j : Nat) (h1 : j ≠ 33) (h2 : j ≠ 28) : cmE A size 35 j = A 35 j := by
  unfold cmE egA
  rw [fl_at, if_neg (by omega), fl_at, if_neg (by omega), fl_at, if_neg (by omega), up2_j h2, up2_j h1]
theorem com24 {size : Nat} (hu : 200000 ≤ fu) (hs : size < 100000) : ∀ m k f σ A, RM b0 J σ A N → dsk A (K + m) → k + m = size → m < f → 1 ≤ A 35 6 → A 35 33 < 1000000 → A 35 34 < 1000000 → A 35 28 < 1000000 → wp (FR b0) σ (L_X12_commit_24 b0 fu f (b0 + 35) (nI size) (nI k) σ) (fun v τ => RY b0 N v τ (bP (lP J (lgX size k m A)) (fun s => .inl (cmF s.1 size, s.2)))) := by
  intro m
  induction m with
  | zero =>
    intro k f σ A h hd hk hf h6 h33 h34 h28
    obtain ⟨f, rfl⟩ : ∃ q, f = q + 1 := ⟨f - 1, by omega⟩
    have L := h.ra.lay
    obtain ⟨d1, d2, -⟩ := hd
    have b6 := bd_35 h.ra 6
    have nz : ¬ nI (A 35 6) = 0 := nI_ne0 (by omega) b6
    have ml := Nat.mod_lt (A 35 33 + size) (show 0 < A 35 6 by omega)
    unfold L_X12_commit_24
    rw [ltb_def, if_l (by omega) (by omega), if_pos (show size ≤ k by omega), ckR_35 L, rf_6 h.ra, rf_33 h.ra, ckD_p nz, nI_add, nI_dv (by omega) (by omega) b6, pk_mul, nI_md (by omega) (by omega) b6]
    have h1 : RM b0 J (sI σ (b0 + 35) 33 (nI ((A 35 33 + size) % A 35 6))) (up2 A 35 33 ((A 35 33 + size) % A 35 6)) N := RM_fix h rfl (by decide) rfl (by show _ < 2147483648; omega)
    rw [rf_28 h1.ra, show up2 A 35 33 ((A 35 33 + size) % A 35 6) 35 28 = A 35 28 from rfl, nI_1]
    have h2 : RM b0 J (sI (sI σ (b0 + 35) 33 (nI ((A 35 33 + size) % A 35 6))) (b0 + 35) 28 (nI (A 35 28 + 1))) (up2 (up2 A 35 33 ((A 35 33 + size) % A 35 6)) 35 28 (A 35 28 + 1)) N := RM_fix h1 rfl (by decide) rfl (by show _ < 2147483648; omega)
    refine wp_from (σ1 := sI (sI σ (b0 + 35) 33 (nI ((A 35 33 + size) % A 35 6))) (b0 + 35) 28 (nI (A 35 28 + 1))) (FR_good b0) ((FR_good b0).2.1 _ _ _ (FR_sI (refO_f 35 (by omega) (by omega))) (FR_sI (refO_f 35 (by omega) (by omega)))) ?_
    refine wp_bind (FR_good b0) (emptyGroup_wp h2 (by omega)) fun _ ρ h3 => ?_
    have e7 : cmE A size 35 7 = A 35 7 := cmE_35 A size 7 (by decide) (by decide)
    have e28 : cmE A size 35 28 = A 35 28 + 1 := by
      unfold cmE egA
      rw [fl_at, if_neg (by omega), fl_at, if_neg (by omega), fl_at, if_neg (by omega), up2_s]
    have := com89 (fu := fu) (l := A 35 28 + 1) hu (by omega) (A 35 7) 0 fu ρ (cmE A size) h3 (by rw [e7]; omega) (by rw [e7]; exact d2) e28 (by omega)
    exact this
  | succ m ih =>
    intro k f σ A h hd hk hf h6 h33 h34 h28
    obtain ⟨f, rfl⟩ : ∃ q, f = q + 1 := ⟨f - 1, by omega⟩
    have L := h.ra.lay
    have b6 := bd_35 h.ra 6
    have nz : ¬ nI (A 35 6) = 0 := nI_ne0 (by omega) b6
    have ml := Nat.mod_lt (A 35 33 + k) (show 0 < A 35 6 by omega)
    have d1 := hd.1
    unfold L_X12_commit_24
    rw [ltb_def, if_l (by omega) (by omega), if_neg (show ¬ size ≤ k by omega), ckR_35 L, rf_6 h.ra, rf_33 h.ra, rf_34 h.ra, ckD_p nz, nI_add, nI_dv (by omega) (by omega) b6, pk_mul, nI_md (by omega) (by omega) b6, show (34 : Int32) + nI ((A 35 33 + k) % A 35 6) = nI (34 + (A 35 33 + k) % A 35 6) from nI_add 34 _]
    have assoc : bP (lP J (lgX size k (m + 1) A)) (fun s => .inl (cmF s.1 size, s.2)) = bP (lP J (verX A (34 + (A 35 33 + k) % A 35 6) 2 (A 35 34))) (fun s => bP (lP J (lgX size (k + 1) m s.1)) (fun s => .inl (cmF s.1 size, s.2))) := by
      show bP (lP J (bX (verX A (34 + (A 35 33 + k) % A 35 6) 2 (A 35 34)) (lgX size (k + 1) m))) _ = _
      cases verX A (34 + (A 35 33 + k) % A 35 6) 2 (A 35 34) <;> rfl
    rw [assoc]
    have hv := version_wp (fu := fu) (b := 34 + (A 35 33 + k) % A 35 6) (wh := 2) (id := A 35 34) (K := K + m) h hd (by omega) (by omega) (by omega) (by omega) (by omega)
    refine wpP (mwp hv fun v ρ q => RX_RY.mp q) fun s ρ e1 h1 => ?_
    obtain ⟨e2, e3⟩ := lP_inl e1
    rw [e2] at h1
    have eA : s.1 = verA A (34 + (A 35 33 + k) % A 35 6) 2 (A 35 34) := by
      unfold verX at e3
      split at e3
      · cases e3
      · exact (Sum.inl.inj e3).symm
    have v35 : ∀ j, j ≠ 15 → j ≠ 16 → j ≠ 19 → j ≠ 20 → s.1 35 j = A 35 j := fun j w1 w2 w3 w4 => by rw [eA]; exact verA_35 A _ _ _ j w1 w2 w3 w4
    rw [ltb_def, ofi]
    refine ih (k + 1) f ρ s.1 h1 ?_ (by omega) (by omega) (by rw [v35 6 (by decide) (by decide) (by decide) (by decide)]; exact h6) (by rw [v35 33 (by decide) (by decide) (by decide) (by decide)]; exact h33) (by rw [v35 34 (by decide) (by decide) (by decide) (by decide)]; exact h34) (by rw [v35 28 (by decide) (by decide) (by decide) (by decide)]; exact h28)
    rw [eA]
    exact dsk_ver hd (by omega) (by omega)
theorem com17 {size : Nat} (h : RM b0 J σ A N) (ho : cm1Ok A J size) (hu : 200000 ≤ fu) : wp (FR b0) σ (J_X12_commit_17 b0 fu (b0 + 35) (nI size) σ) (fun v τ => ∃ un, un ≤ N ∧ RY b0 N v τ (cm1X A J size un)) := by
  obtain ⟨o1, o2, o3, o4, o5, o6, o7, o8, o9⟩ := ho
  have L := h.ra.lay
  unfold J_X12_commit_17
  rw [ckR_35 L]
  refine wp_bind (FR_good b0) (record_wp (size := size) h o1 o2 o3 (by omega) o4 (by omega)) fun _ ρ hq => ?_
  obtain ⟨un, hun, h1⟩ := hq
  have hd1 : dsk (up2 A 35 34 (A 35 34 + 1)) (1 + size) := by
    rw [Nat.add_comm 1]
    exact o5
  have e34 : up2 A 35 34 (A 35 34 + 1) 35 34 = A 35 34 + 1 := up2_s _ _ _ _
  exact mwp (com24 (fu := fu) (K := 1) hu o8 size 0 fu ρ _ h1 hd1 (by omega) (by omega) o6 o7 (by rw [e34]; exact o4) o9) fun v τ q => ⟨un, hun, q⟩
theorem bP_inl (s : tP) (f : tP → tP ⊕ tP) : bP (.inl s) f = f s := rfl
theorem bP_inr (s : tP) (f : tP → tP ⊕ tP) : bP (.inr s) f = .inr s := rfl
theorem com_ck {x : Option ((Unit ⊕ Unit) × tM)} {k : Unit → tM → Option ((Unit ⊕ Unit) × tM)} {X : tP ⊕ tP} (f : tP → Nat → tP ⊕ tP) (hc : wp (FR b0) σ x (fun v τ => RY b0 N v τ X)) (c : ∀ s ρ, X = .inl s → RM b0 s.2 ρ s.1 N → wp (FR b0) ρ (k () ρ) (fun v τ => ∃ un, un ≤ N ∧ RY b0 N v τ (f s un))) : wp (FR b0) σ (clx x k) (fun v τ => ∃ un, un ≤ N ∧ RY b0 N v τ (bP X (fun s => f s un))) := by
  cases X with
  | inl s =>
    refine wp_clx (FR_good b0) hc (fun v ρ q => c s ρ rfl q.2) (fun ρ q => ?_)
    exact absurd q.1 (fun e => by cases e)
  | inr s =>
    refine wp_clx (FR_good b0) hc (fun v ρ q => ?_) (fun ρ q => ⟨0, Nat.zero_le _, q⟩)
    exact absurd q.1 (fun e => by cases e)
theorem gs_lt (A : tS) : gsA A < 100000 := by
  obtain ⟨t1, t2⟩ := tc_le A
  have e : gsA A = tcA A + (tcA A + rcA A + 119) / 120 := rfl
  generalize tcA A = t at t1 e
  generalize rcA A = r at t2 e
  omega
theorem fr_le {A : tS} {J : tJ} (h : A 35 6 ≤ 4096) : freA_ A J ≤ 4096 := Nat.le_trans (Nat.sub_le _ _) h
theorem commit_wp (h : RM b0 J σ A N) (ho : cmOk A J) (hu : 1200000 ≤ fu) : wp (FR b0) σ (m_X12_commit b0 fu (b0 + 35) σ) (fun v τ => ∃ un, un ≤ N ∧ RY b0 N v τ (cmX A J un)) := by
  have L := h.ra.lay
  obtain ⟨o1, o2, o3, o4, o5, o6, o7, o8, o9⟩ := ho
  have gb := gs_lt A
  have fb := fr_le (J := J) o5
  have eg := groupSize_eq (fu := fu) h.ra (by omega)
  have ef : m_X12_freeOfLog b0 fu (b0 + 35) σ = some (nI (freA_ A J), σ) := freeOfLog_eq h (g := A 35 32 - A 35 35) (by omega) o2 o3 o4 o5 o6 (by omega) (by omega)
  refine wp_grw (FR_good b0) ?_
  unfold cmX
  generalize gsA A = g at gb eg o8 o9 ⊢
  generalize freA_ A J = fr at fb ef o8 o9 ⊢
  rw [ckR_35 L, eg, cll_some, ckR_35 L, ef, cll_some, if_l (by omega) (by omega)]
  by_cases e : g ≤ fr
  · simp only [if_pos e]
    exact com17 h (o8 e) (by omega)
  · simp only [if_neg e]
    rw [ckR_35 L]
    obtain ⟨c1, c2⟩ := o9 e
    have hc := checkpoint_wp (fu := fu) h c1 hu
    exact com_ck (fun s un => cm1X s.1 s.2 g un) hc fun s ρ e1 h1 => com17 h1 (c2 s e1) (by omega)
end CM
