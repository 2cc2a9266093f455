/-! ===== PURE: the reference's recovery ===== -/
/-- how a recovery ends -/
def RV (b0 : Nat) (J : tJ) (N fr to : Nat) (s : Nat → Nat) (v : Int32 ⊕ Unit) (τ : tM) (x : tS ⊕ tS) : Prop := match x with
  | .inl A => v = .inl (nI (to - fr)) ∧ RM b0 (udJ J s) τ (udA A to (udE A J to) s) (N + 128)
  | .inr A => v = .inr () ∧ RM b0 J τ A N
/-- what undoing needs -/
def udOk (A : tS) (J : tJ) (to : Nat) (s : Nat → Nat) : Prop := (1 ≤ A 35 6 ∧ A 35 6 ≤ 4096) ∧ A 35 7 ≤ 2000 ∧ A 35 35 ≤ to ∧ to - A 35 35 ≤ J.2.1 ∧ to < 1000000 ∧ (∀ k, k < J.2.1 → J.1 38 k + J.1 39 k < 1000000) ∧ J.2.2.2 (udC A J to) s ∧ mfLok 0 64 (ud4 A to (udE A J to) s)
section RX6
variable {b0 fu : Nat} {σ τ : tM} {A B U : tS} {N K K' : Nat} {J : tJ}
theorem wpV {γ : Type} {x : Option ((Unit ⊕ Unit) × tM)} {k : Unit → tM → Option ((γ ⊕ Unit) × tM)} {X : tS ⊕ tS} {Q : γ ⊕ Unit → tM → Prop} (h : wp (FR b0) σ x (fun v τ => RX b0 J N v τ X)) (c : ∀ A ρ, X = .inl A → RM b0 J ρ A N → wp (FR b0) ρ (k () ρ) Q) (d : ∀ A ρ, X = .inr A → RM b0 J ρ A N → Q (.inr ()) ρ) : wp (FR b0) σ (clx x k) Q := by
  cases X with
  | inl A =>
    refine wp_clx (FR_good b0) h (fun v ρ q => c A ρ rfl q.2) (fun ρ q => ?_)
    exact absurd q.1 (fun e => by cases e)
  | inr A =>
    refine wp_clx (FR_good b0) h (fun v ρ q => ?_) (fun ρ q => d A ρ rfl q.2)
    exact absurd q.1 (fun e => by cases e)
theorem verX_inl {b wh id : Nat} {A' : tS} (h : verX A b wh id = .inl A') : A' = verA A b wh id := by
  unfold verX at h
  split at h
  · cases h
  · exact (Sum.inl.inj h).symm
theorem rec191 {fr to : Nat} {s : Nat → Nat} (hfr : fr ≤ to) (hx : to < 1000000) (hN : 4000 ≤ N) (hN2 : N + 130 < 65536) (hu : 200000 ≤ fu) : ∀ m b f σ A, RM b0 J σ A N → dsk A (K + m) → b + m = blk A → m < f → (∀ B, byX b m A = .inl B → dsk B 1 ∧ ∀ C, fluX B = .inl C → dsk C 1 ∧ 0 < 34 + C 35 6 + C 35 7 ∧ dsk (verA C 0 1 to) 1 ∧ ∀ D, fluX (verA C 0 1 to) = .inl D → udOk D J to s) → wp (FR b0) σ (L_X12_recovery_191 b0 fu f (b0 + 35) (nI fr) (nI to) (nI b) σ) (fun v τ => RV b0 J N fr to s v τ (bX (byX b m A) (fun B => rv3 B to))) := by
  intro m
  induction m with
  | zero =>
    intro b f σ A h hd hb hf ho
    obtain ⟨f, rfl⟩ : ∃ q, f = q + 1 := ⟨f - 1, by omega⟩
    have L := h.ra.lay
    obtain ⟨d1, d2, -⟩ := hd
    have bb : blk A < 10000 := by unfold blk; omega
    obtain ⟨o1, o2⟩ := ho A rfl
    unfold L_X12_recovery_191
    rw [ltb_def, ckR_35 L, blocks_eq h.ra, cll_some]
    show wp (FR b0) σ (if nI (blk A) ≤ nI b then _ else _) _
    rw [if_l (by omega) (by omega), if_pos (show blk A ≤ b by omega), ckR_35 L]
    show wp (FR b0) σ _ (fun v τ => RV b0 J N fr to s v τ (rv3 A to))
    unfold rv3
    refine wpV (flushAct_wp (K := 0) h o1 (by omega)) (fun C ρ e1 h1 => ?_) (fun C ρ e1 h1 => ?_)
    · obtain ⟨p1, p2, p3, p4⟩ := o2 C e1
      rw [e1]
      show wp (FR b0) ρ _ (fun v τ => RV b0 J N fr to s v τ (bX (verX C 0 1 to) (fun C => fluX C)))
      rw [ckR_35 h1.ra.lay]
      refine wpV (version_wp (K := 0) (b := 0) (wh := 1) (id := to) h1 p1 p2 (by omega) (by omega) (by omega) (by omega)) (fun D ρ2 e2 h2 => ?_) (fun D ρ2 e2 h2 => ?_)
      · have eD := verX_inl e2
        subst eD
        rw [e2]
        show wp (FR b0) ρ2 _ (fun v τ => RV b0 J N fr to s v τ (fluX (verA C 0 1 to)))
        rw [ckR_35 h2.ra.lay]
        refine wpV (flushAct_wp (K := 0) h2 p3 (by omega)) (fun E ρ3 e3 h3 => ?_) (fun E ρ3 e3 h3 => ?_)
        · obtain ⟨u1, u2, u3, u4, u5, u6, u7, u8⟩ := p4 E e3
          rw [e3, ckR_35 h3.ra.lay]
          refine wp_bind (FR_good b0) (undo_wp h3 u1 u2 u3 u4 u5 u6 u7 hN hN2 u8 hu) fun _ ρ4 h4 => ?_
          rw [nI_sb hfr]
          exact wp_ret ((FR_good b0).1 _) ⟨rfl, h4⟩
        · rw [e3]; exact ⟨rfl, h3⟩
      · rw [e2]; exact ⟨rfl, h2⟩
    · rw [e1]; exact ⟨rfl, h1⟩
  | succ m ih =>
    intro b f σ A h hd hb hf ho
    obtain ⟨f, rfl⟩ : ∃ q, f = q + 1 := ⟨f - 1, by omega⟩
    have L := h.ra.lay
    obtain ⟨d1, d2, -⟩ := id hd
    have bb : blk A < 10000 ∧ blk A ≤ 6130 := by unfold blk; omega
    have b69 := bd_69 h.ra b
    have eb : byX b (m + 1) A = if A 69 b = 0 then byX (b + 1) m A else bX (verX A b 0 0) (byX (b + 1) m) := rfl
    unfold L_X12_recovery_191 J_X12_recovery_215
    rw [ltb_def, ckR_35 L, blocks_eq h.ra, cll_some]
    show wp (FR b0) σ (if nI (blk A) ≤ nI b then _ else _) _
    rw [if_l (by omega) (by omega), if_neg (show ¬ blk A ≤ b by omega), ckR_35 L, osm_p (rfR_35_55 L), ckR_69 L, ckI_n (by omega) (by omega), nI_cl (by omega), rd_69 h.ra]
    show wp (FR b0) σ (if nI (A 69 b) ≤ nI 0 then _ else _) _
    rw [if_l (by omega) (by omega)]
    by_cases e : A 69 b = 0
    · rw [if_pos (by omega), ltb_def, ofi, eb, if_pos e]
      rw [eb, if_pos e] at ho
      exact ih (b + 1) f σ A h (by obtain ⟨x1, x2, x3, x4, x5, x6, x7⟩ := hd; exact ⟨x1, x2, x3, x4, by omega, by omega, x7⟩) (by omega) (by omega) ho
    · rw [if_neg (by omega), eb, if_neg e]
      rw [eb, if_neg e] at ho
      refine wpV (version_wp (K := K + m) (b := b) (wh := 0) (id := 0) h hd (by unfold blk at hb; omega) (by omega) (by omega) (by omega) (by omega)) (fun D ρ2 e2 h2 => ?_) (fun D ρ2 e2 h2 => ?_)
      · have eD := verX_inl e2
        rw [e2] at ho ⊢
        rw [ltb_def, ofi]
        have v35 : ∀ j, j ≠ 15 → j ≠ 16 → j ≠ 19 → j ≠ 20 → D 35 j = A 35 j := fun j w1 w2 w3 w4 => by rw [eD]; exact verA_35 A b 0 0 j w1 w2 w3 w4
        have ebk : blk D = blk A := by unfold blk; rw [v35 6 (by decide) (by decide) (by decide) (by decide), v35 7 (by decide) (by decide) (by decide) (by decide)]
        exact ih (b + 1) f ρ2 D h2 (by rw [eD]; exact dsk_ver hd (by unfold blk at hb; omega) (by omega)) (by omega) (by omega) ho
      · rw [e2]; exact ⟨rfl, h2⟩
/-- what a recovery needs -/
def rcOk (A : tS) (J : tJ) (s : Nat → Nat) : Prop :=
  let A1 := rv1 A
  let fr := rvF A1
  let to := A1 35 35 + rvT A1 J (fr - A1 35 35)
  dsk A 0 ∧ (∀ b, 6200 ≤ b → A 68 b = 0) ∧ (1 ≤ A1 35 6 ∧ A1 35 6 ≤ 4096) ∧ A1 35 35 < 100000 ∧ J.2.1 < 100000 ∧ (∀ k, k < J.2.1 → J.1 38 k < 1000000 ∧ J.1 39 k < 1000000) ∧ A1 35 35 ≤ fr ∧ fr - A1 35 35 ≤ J.2.1 ∧
  (∀ i, i < J.2.1 → J.1 41 i + J.1 42 i + J.1 43 i ≤ J.2.2.1) ∧ (∀ q, q < J.2.2.1 → J.1 44 q < 6200) ∧ dsk (rv2 A1 J fr to) (blk A1) ∧
  (∀ B, byX 0 (blk A1) (rv2 A1 J fr to) = .inl B → dsk B 1 ∧ ∀ C, fluX B = .inl C → dsk C 1 ∧ 0 < 34 + C 35 6 + C 35 7 ∧ dsk (verA C 0 1 to) 1 ∧ ∀ D, fluX (verA C 0 1 to) = .inl D → udOk D J to s)
theorem recovery_wp {s : Nat → Nat} (h : RM b0 J σ A N) (ho : rcOk A J s) (hN : 4000 ≤ N) (hN2 : N + 130 < 65536) (hu : 1200000 ≤ fu) : wp (FR b0) σ (m_X12_recovery b0 fu (b0 + 35) σ) (fun v τ => RV b0 J N (rvF (rv1 A)) (rv1 A 35 35 + rvT (rv1 A) J (rvF (rv1 A) - rv1 A 35 35)) s v τ (rvX (rv1 A) J (rvF (rv1 A)) (rv1 A 35 35 + rvT (rv1 A) J (rvF (rv1 A) - rv1 A 35 35)))) := by
  have L := h.ra.lay
  obtain ⟨o1, o2, o3, o4, o5, o6, o7, o8, o9, o10, o11, o12⟩ := ho
  refine wp_grw (FR_good b0) ?_
  rw [ckR_35 L]
  refine wp_bind (FR_good b0) (keepChosen_wp h o1 o2 (by omega)) fun _ ρ h1 => ?_
  have h2 : RM b0 J (sI ρ (b0 + 35) 18 1) (rv1 A) N := RM_fix (x := 1) h1 rfl (by decide) rfl (by decide)
  generalize hA1 : rv1 A = A1 at h2 o3 o4 o7 o8 o11 o12 ⊢
  have L2 := h2.ra.lay
  have b39 := bd_39 h2.ra 0
  have key : wp (FR b0) (sI ρ (b0 + 35) 18 1) (J_X12_recovery_29 b0 fu (b0 + 35) (nI (rvF A1)) (sI ρ (b0 + 35) 18 1)) (fun v τ => RV b0 J N (rvF A1) (A1 35 35 + rvT A1 J (rvF A1 - A1 35 35)) s v τ (rvX A1 J (rvF A1) (A1 35 35 + rvT A1 J (rvF A1 - A1 35 35)))) := by
    generalize rvF A1 = fr at o7 o8 o11 o12 ⊢
    unfold J_X12_recovery_29
    obtain ⟨k, hk⟩ : ∃ k, fr = A1 35 35 + k := ⟨fr - A1 35 35, by omega⟩
    have ek : fr - A1 35 35 = k := by omega
    rw [ek] at o8 o11 o12 ⊢
    have e1 := rec32 (fu := fu) (fr := fr) h2 o3 o6 o4 o5 hu (J.2.1 + 1 - k) k fu (by omega) (by omega) (by omega)
    rw [← hk] at e1
    rw [e1]
    have er : sr (fun k => !whJ A1 J k) k (J.2.1 + 1 - k) = rvT A1 J k := rfl
    rw [er]
    have r1 : k ≤ rvT A1 J k ∧ rvT A1 J k ≤ J.2.1 := by
      have q1 := sr_le (fun k => !whJ A1 J k) (J.2.1 + 1 - k) k
      rw [er] at q1
      refine ⟨q1.1, ?_⟩
      by_cases w : rvT A1 J k ≤ J.2.1
      · exact w
      · exfalso
        have := sr_no (fun k => !whJ A1 J k) (J.2.1 + 1 - k) k J.2.1 (by omega) (by rw [er]; omega)
        have w2 : whJ A1 J J.2.1 = false := decide_eq_false (fun q => by omega)
        rw [w2] at this
        cases this
    generalize rvT A1 J k = T at r1 o11 o12 ⊢
    obtain ⟨τ1, a1, a2, a3⟩ := rec50 (b0 := b0) (fu := fu) (fr := fr) (to := A1 35 35 + T) 6200 0 fu _ _ h2 (by omega) (by omega)
    show wp (FR b0) _ (L_X12_recovery_50 b0 fu fu (b0 + 35) (nI fr) (nI (A1 35 35 + T)) (nI 0) (sI ρ (b0 + 35) 18 1)) _
    rw [a1]
    refine wp_from (FR_good b0) a2 ?_
    have b35 : fl 69 0 0 6200 A1 35 35 = A1 35 35 := by rw [fl_at, if_neg (by omega)]
    obtain ⟨τ2, c1, c2, c3⟩ := rec76 (b0 := b0) (fu := fu) (fr := fr) (to := A1 35 35 + T) (ba := A1 35 35) o9 o10 (by omega) (by omega) (T - k) k fu τ1 _ a3 b35 (by omega) (by omega) (by omega)
    rw [show fr + 1 = A1 35 35 + k + 1 by omega, c1]
    refine wp_from (FR_good b0) c2 ?_
    unfold J_X12_recovery_189
    have e2 : rv2 A1 J fr (A1 35 35 + T) = byN J (A1 35 35) k (T - k) (fl 69 0 0 6200 A1) := by
      unfold rv2
      rw [ek, show A1 35 35 + T - fr = T - k by omega]
    rw [← e2] at c3
    have g35 : ∀ j, rv2 A1 J fr (A1 35 35 + T) 35 j = A1 35 j := fun j => by
      unfold rv2
      rw [byN_o (by decide), fl_at, if_neg (by omega)]
    have gb : blk (rv2 A1 J fr (A1 35 35 + T)) = blk A1 := by unfold blk; rw [g35, g35]
    unfold rvX
    have bb : blk A1 ≤ 6130 := by
      have q1 := o11.1
      have q2 := o11.2.1
      rw [g35] at q1 q2
      unfold blk; omega
    exact rec191 (K := 0) (by omega) (by omega) hN hN2 (by omega) (blk A1) 0 fu τ2 _ c3 (by rw [Nat.zero_add]; exact o11) (by rw [gb]; omega) (by omega) o12
  refine wp_from (σ1 := sI ρ (b0 + 35) 18 1) (FR_good b0) (FR_sI (refO_f 35 (by omega) (by omega))) ?_
  simp only [rd_AI, rd_AL, rd_AIr, rd_ALr, rd_IL, rd_LI, rd_IA, rd_LA, rd_LIr, rd_ILr, ckR_sI, ckO_sI, ckR_sL, ckO_sL, ckR_sA, ckO_sA, ckR_sIr, ckO_sIr, ckR_sLr, ckO_sLr]
  have Lρ := h1.ra.lay
  rw [ckR_35 Lρ, osm_p (rfR_35_8 Lρ), ckR_39 Lρ]
  show wp (FR b0) _ (ckI (nI 0) 6200 (if tI (sI ρ (b0 + 35) 18 1) (b0 + 39) 0 = nI 1 then osm (tA ρ (b0 + 35) 9) (fun a148 => ckR b0 ρ a148 0 (fun n152 => ckI (nI 0) n152 (J_X12_recovery_29 b0 fu (b0 + 35) (tI (sI ρ (b0 + 35) 18 1) a148 0) (sI ρ (b0 + 35) 18 1)))) else J_X12_recovery_29 b0 fu (b0 + 35) (nI 0) (sI ρ (b0 + 35) 18 1))) _
  rw [ckI_n (by omega) (by omega), rd_39 h2.ra, if_e b39 (by omega), osm_p (rfR_35_9 Lρ), ckR_40 Lρ, ckI_n (by omega) (by omega), rd_40 h2.ra]
  by_cases e : A1 39 0 = 1
  · rw [if_pos e]
    have : rvF A1 = A1 40 0 := if_pos e
    rw [this] at key ⊢
    exact key
  · rw [if_neg e]
    have : rvF A1 = 0 := if_neg e
    rw [this] at key ⊢
    exact key
end RX6
