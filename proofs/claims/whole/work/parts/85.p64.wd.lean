/-! ===== PURE: the reference's writeDirty ===== -/
def itN (n : Nat) : Nat → Nat → tS → tS
  | _, 0, A => A
  | i, m + 1, A => itN n (i + 1) m (if hasA A n i = 0 then A else up2 A 72 (hasA A n i - 1) 1)
def wdL (most : Nat) : Nat → Nat → Nat → tS → (Nat × tS) ⊕ tS
  | 0, _, d, A => .inl (d, A)
  | m + 1, k, d, A => if most ≤ d then .inl (d, A) else if A 72 k = 0 ∨ A 48 k = 0 then wdL most m (k + 1) d A
    else match verX A (34 + A 35 6 + k) 3 (A 36 (6080 + k * 274 + 1)) with
      | .inl B => wdL most m (k + 1) (d + 1) (up2 B 48 k 0)
      | .inr B => .inr B
def wdI (o : Option Nat) (A : tS) : tS := match o with
  | none => fl 72 1 0 (A 35 7) A
  | some n => itN n 0 ((nd A n 1 + 255) / 256) (fl 72 0 0 (A 35 7) A)
def wdX (o : Option Nat) (most : Nat) (A : tS) : (Nat × tS) ⊕ tS := wdL most (A 35 7) 0 0 (wdI o A)
def RW (b0 : Nat) (J : tJ) (N : Nat) (v : Int32 ⊕ Unit) (τ : tM) (x : (Nat × tS) ⊕ tS) : Prop := match x with
  | .inl p => v = .inl (nI p.1) ∧ RM b0 J τ p.2 N
  | .inr B => v = .inr () ∧ RM b0 J τ B N
def oI (o : Option Nat) : Int32 := match o with
  | none => -1
  | some n => nI n
theorem vb0 : vp_nar .boolean 0 = nI 0 := by decide
theorem vb1 : vp_nar .boolean 1 = nI 1 := by decide
theorem vy0 : vp_nar .byte 0 = nI 0 := by decide
theorem vy1 : vp_nar .byte 1 = nI 1 := by decide
def wdJ (o : Option Nat) (k m : Nat) (A : tS) : tS := match o with
  | none => fl 72 1 k m A
  | some n => itN n 0 ((nd A n 1 + 255) / 256) (fl 72 0 k m A)
section WD
variable {b0 fu : Nat} {σ τ : tM} {A B U : tS} {N N' K K' : Nat} {J : tJ}
theorem dsk_cong {K : Nat} (h : dsk A K) (h35 : B 35 = A 35) (h42 : B 42 = A 42) (h43 : B 43 = A 43) : dsk B K := by
  obtain ⟨d1, d2, d3, d4, d5, d6, d7⟩ := h
  unfold dsk slOk
  rw [h35, h42, h43]
  exact ⟨d1, d2, d3, d4, d5, d6, d7⟩
theorem wd99 {most : Nat} (hm : most < 2147483648) (hu : 10000 ≤ fu) : ∀ m k d f σ A, RM b0 J σ A N → dsk A (K + m) → k + m = A 35 7 → d ≤ k → m < f → wp (FR b0) σ (L_X12_writeDirty_99 b0 fu f (b0 + 35) (nI most) (nI d) (nI k) σ) (fun v τ => RW b0 J N v τ (wdL most m k d A)) := by
  intro m
  induction m with
  | zero =>
    intro k d f σ A h hd hk hdk hf
    obtain ⟨f, rfl⟩ : ∃ q, f = q + 1 := ⟨f - 1, by omega⟩
    have b7 := hd.2.1
    unfold L_X12_writeDirty_99 J_X12_writeDirty_176
    rw [ltb_def, ckR_35 h.ra.lay, rf_7 h.ra, if_l (by omega) (by omega), if_pos (by omega)]
    exact wp_ret ((FR_good b0).1 _) ⟨rfl, h⟩
  | succ m ih =>
    intro k d f σ A h hd hk hdk hf
    obtain ⟨f, rfl⟩ : ∃ q, f = q + 1 := ⟨f - 1, by omega⟩
    have b7 := hd.2.1
    have b6 := hd.1
    have L := h.ra.lay
    have b72 := bd_72 h.ra k
    have b48 := bd_48 h.ra k
    unfold L_X12_writeDirty_99 J_X12_writeDirty_176 J_X12_writeDirty_170
    unfold wdL
    rw [ltb_def, ckR_35 L, rf_7 h.ra, if_l (by omega) (by omega), if_neg (by omega), if_l hm (by omega)]
    by_cases c0 : most ≤ d
    · rw [if_pos c0, if_pos c0]
      exact wp_ret ((FR_good b0).1 _) ⟨rfl, h⟩
    rw [if_neg c0, if_neg c0, osm_p (rfR_35_59 L), ckR_72 L, ckI_n (by omega) (by omega), nI_cl (by omega), rd_72 h.ra, ltb_def, ofi]
    show wp (FR b0) σ (if nI (A 72 k) = nI 0 then _ else _) _
    rw [if_e (by omega) (by omega)]
    by_cases c1 : A 72 k = 0
    · rw [if_pos c1, if_pos (Or.inl c1)]
      exact ih (k + 1) d f σ A h (by obtain ⟨d1, d2, d3, d4, d5, d6, d7⟩ := hd; exact ⟨d1, d2, d3, d4, by omega, by omega, d7⟩) (by omega) (by omega) (by omega)
    rw [if_neg c1, osm_p (rfR_35_23 L), ckR_48 L, ckI_n (by omega) (by omega), rd_48 h.ra]
    show wp (FR b0) σ (if nI (A 48 k) = nI 0 then _ else _) _
    rw [if_e (by omega) (by omega)]
    by_cases c2 : A 48 k = 0
    · rw [if_pos c2, if_pos (Or.inr c2)]
      exact ih (k + 1) d f σ A h (by obtain ⟨d1, d2, d3, d4, d5, d6, d7⟩ := hd; exact ⟨d1, d2, d3, d4, by omega, by omega, d7⟩) (by omega) (by omega) (by omega)
    rw [if_neg c2, if_neg (fun r => by rcases r with r | r; exact c1 r; exact c2 r), numberOf_eq h.ra, cll_some, ckR_35 L, osm_p (rfR_35_1 L)]
    show wp (FR b0) σ (cll (m_X12_room b0 fu (nI k) (nI 1) σ) _) _
    rw [room_eq, cll_some, ckR_36 L, ckI_n (by omega) (by omega), nI_cl (by omega), rd_36 h.ra, ckR_35 L]
    have hv := version_wp (fu := fu) (b := 34 + A 35 6 + k) (wh := 3) (id := A 36 (6080 + k * 274 + 1)) (K := K + m) h hd (by omega) (fun _ => by omega) (by omega) (bd_36 h.ra _) hu
    have e3 : (3 : Int32) = nI 3 := rfl
    rw [e3]
    cases eX : verX A (34 + A 35 6 + k) 3 (A 36 (6080 + k * 274 + 1)) with
    | inr B =>
      rw [eX] at hv
      refine wp_clx (FR_good b0) hv ?_ ?_
      · intro v ρ q
        exact absurd q.1 (fun e => by cases e)
      · intro ρ q
        exact ⟨rfl, q.2⟩
    | inl B =>
      rw [eX] at hv
      have eB := verX_inl eX
      refine wp_clx (FR_good b0) hv ?_ ?_
      · intro v ρ q
        have q := q.2
        have L2 := q.ra.lay
        rw [ckR_35 L2, osm_p (rfR_35_23 L2), ckR_48 L2, ckI_n (by omega) (by omega), ltb_def, ofi]
        have h2 : RM b0 J (sI ρ (b0 + 48) k (vp_nar .boolean 0)) (up2 B 48 k 0) N := RM_fix (o := 48) (j := k) (x := 0) q rfl (by decide) vb0 (by decide)
        refine wp_from (FR_good b0) (FR_sI (v := vp_nar .boolean 0) (j := k) (refO_f 48 (by omega) (by omega))) (ih (k + 1) (d + 1) f _ _ h2 ?_ ?_ (by omega) (by omega))
        · refine dsk_cong (A := B) ?_ (up2_rown (by decide)) (up2_rown (by decide)) (up2_rown (by decide))
          rw [eB]
          exact dsk_ver hd (by omega) (fun _ => by omega)
        · rw [up2_o (by decide), eB, verA_35 _ _ _ _ _ (by decide) (by decide) (by decide) (by decide)]
          omega
      · intro ρ q
        exact absurd q.1 (fun e => by cases e)
theorem has_72 {n i j x : Nat} : hasA (up2 A 72 j x) n i = hasA A n i := by
  rw [(on36 (A := up2 A 72 j x) (B := A) (up2_rown (by decide))).2.2.2.1]
theorem itN_o {n o : Nat} (h : o ≠ 72) : ∀ m i (A : tS), itN n i m A o = A o
  | 0, _, _ => rfl
  | m + 1, i, A => by
    unfold itN
    rw [itN_o h m]
    split
    · rfl
    · exact up2_rown h
theorem wd57 {n most : Nat} (hn : n < 64) (hm : most < 2147483648) (hu : 10000 ≤ fu) {all : Nat} (ha : all ≤ 1064) : ∀ m i f σ A, RM b0 J σ A N → dsk A (K + A 35 7) → i + m = all → m < f → wp (FR b0) σ (L_X12_writeDirty_57 b0 fu f (b0 + 35) (nI n) (nI most) (nI all) (nI i) σ) (fun v τ => RW b0 J N v τ (wdL most (A 35 7) 0 0 (itN n i m A))) := by
  intro m
  induction m with
  | zero =>
    intro i f σ A h hd hi hf
    obtain ⟨f, rfl⟩ : ∃ q, f = q + 1 := ⟨f - 1, by omega⟩
    have b7 := hd.2.1
    unfold L_X12_writeDirty_57
    rw [ltb_def, if_l (by omega) (by omega), if_pos (by omega)]
    exact wd99 hm hu (A 35 7) 0 0 fu σ A h hd (by omega) (by omega) (by omega)
  | succ m ih =>
    intro i f σ A h hd hi hf
    obtain ⟨f, rfl⟩ : ∃ q, f = q + 1 := ⟨f - 1, by omega⟩
    have L := h.ra.lay
    have l1 := has_le h.ok (n := n) (i := i) hn (by omega)
    unfold L_X12_writeDirty_57 J_X12_writeDirty_87 itN
    rw [ltb_def, if_l (by omega) (by omega), if_neg (by omega), ckR_35 L, has_eq h.ra h.ok hn (by omega), cll_some, ltb_def, ltb_def, ofi]
    by_cases z : hasA A n i = 0
    · rw [if_pos z, z, if_pos (show nI 0 - 1 < 0 by decide)]
      exact ih (i + 1) f σ A h hd (by omega) (by omega)
    · rw [if_neg z, show nI (hasA A n i) - 1 = nI (hasA A n i - 1) from nI_sb (b := 1) (by omega), if_neg (nI_pos (by omega)), ckR_35 L, osm_p (rfR_35_59 L), ckR_72 L, ckI_n (by omega) (by omega), nI_cl (by omega)]
      have h2 : RM b0 J (sI σ (b0 + 72) (hasA A n i - 1) (vp_nar .boolean 1)) (up2 A 72 (hasA A n i - 1) 1) N := RM_fix (o := 72) (x := 1) h rfl (by decide) vb1 (by decide)
      refine wp_from (FR_good b0) (FR_sI (v := vp_nar .boolean 1) (j := hasA A n i - 1) (refO_f 72 (by omega) (by omega))) ?_
      have := ih (i + 1) f _ _ h2 (dsk_cong (A := A) (by rw [up2_o (by decide)]; exact hd) (up2_rown (by decide)) (up2_rown (by decide)) (up2_rown (by decide))) (by omega) (by omega)
      rw [up2_o (by decide)] at this
      exact this
theorem wd2 {o : Option Nat} {most : Nat} (ho : ∀ n, o = some n → n < 64) (hm : most < 2147483648) (hu : 10000 ≤ fu) : ∀ m k f σ A, RM b0 J σ A N → dsk A (K + A 35 7) → k + m = A 35 7 → m < f → wp (FR b0) σ (L_X12_writeDirty_2 b0 fu f (b0 + 35) (oI o) (nI most) (nI k) σ) (fun v τ => RW b0 J N v τ (wdL most (A 35 7) 0 0 (wdJ o k m A))) := by
  intro m
  induction m with
  | zero =>
    intro k f σ A h hd hk hf
    obtain ⟨f, rfl⟩ : ∃ q, f = q + 1 := ⟨f - 1, by omega⟩
    have b7 := hd.2.1
    have L := h.ra.lay
    unfold L_X12_writeDirty_2 J_X12_writeDirty_53
    rw [ltb_def, ckR_35 L, rf_7 h.ra, if_l (by omega) (by omega), if_pos (by omega)]
    cases o with
    | none =>
      rw [if_neg (show ¬ (0 : Int32) ≤ oI none by decide)]
      obtain ⟨g, eg⟩ : ∃ q, fu = q + 1 := ⟨fu - 1, by omega⟩
      have : L_X12_writeDirty_57 b0 fu fu (b0 + 35) (oI none) (nI most) 0 0 σ = L_X12_writeDirty_99 b0 fu fu (b0 + 35) (nI most) 0 0 σ := by
        conv => lhs; arg 3; rw [eg]
        unfold L_X12_writeDirty_57
        rw [ltb_def, if_pos (by decide)]
      rw [this]
      exact wd99 hm hu (A 35 7) 0 0 fu σ A h hd (by omega) (by omega) (by omega)
    | some n =>
      have n64 := ho n rfl
      have hs : nd A n 1 < 272385 := sz_lt h.ok n64
      show wp (FR b0) σ (if (0 : Int32) ≤ nI n then cll (m_X12_node b0 fu (b0 + 35) (nI n) (nI 1) σ) _ else _) _
      rw [if_pos (Int32.not_lt.mp (nI_pos (by omega))), node_nd h.ra n64 (by omega), cll_some, show nI (nd A n 1) + (255 : Int32) = nI (nd A n 1 + 255) from nI_add _ 255, show nI (nd A n 1 + 255) / (256 : Int32) = nI ((nd A n 1 + 255) / 256) from nI_dv (d := 256) (by omega) (by omega) (by omega)]
      exact wd57 n64 hm hu (by omega) _ 0 fu σ A h hd (by omega) (by omega)
  | succ m ih =>
    intro k f σ A h hd hk hf
    obtain ⟨f, rfl⟩ : ∃ q, f = q + 1 := ⟨f - 1, by omega⟩
    have b7 := hd.2.1
    have L := h.ra.lay
    unfold L_X12_writeDirty_2 J_X12_writeDirty_24
    rw [ltb_def, ckR_35 L, rf_7 h.ra, if_l (by omega) (by omega), if_neg (by omega), osm_p (rfR_35_59 L), ckR_72 L, ckI_n (by omega) (by omega), nI_cl (by omega), ltb_def, ofi]
    cases o with
    | none =>
      rw [if_neg (show ¬ (0 : Int32) ≤ oI none by decide), ckR_72 L, ckI_n (by omega) (by omega), ltb_def]
      have h2 : RM b0 J (sI σ (b0 + 72) k (vp_nar .boolean 1)) (up2 A 72 k 1) N := RM_fix (o := 72) (x := 1) h rfl (by decide) vb1 (by decide)
      refine wp_from (FR_good b0) (FR_sI (v := vp_nar .boolean 1) (j := k) (refO_f 72 (by omega) (by omega))) ?_
      have := ih (k + 1) f _ _ h2 (dsk_cong (A := A) (by rw [up2_o (by decide)]; exact hd) (up2_rown (by decide)) (up2_rown (by decide)) (up2_rown (by decide))) (by rw [up2_o (by decide)]; omega) (by omega)
      rw [up2_o (by decide)] at this
      exact this
    | some n =>
      have n64 := ho n rfl
      rw [if_pos (show (0 : Int32) ≤ oI (some n) from Int32.not_lt.mp (nI_pos (by omega)))]
      have h2 : RM b0 J (sI σ (b0 + 72) k (vp_nar .boolean 0)) (up2 A 72 k 0) N := RM_fix (o := 72) (x := 0) h rfl (by decide) vb0 (by decide)
      refine wp_from (FR_good b0) (FR_sI (v := vp_nar .boolean 0) (j := k) (refO_f 72 (by omega) (by omega))) ?_
      have := ih (k + 1) f _ _ h2 (dsk_cong (A := A) (by rw [up2_o (by decide)]; exact hd) (up2_rown (by decide)) (up2_rown (by decide)) (up2_rown (by decide))) (by rw [up2_o (by decide)]; omega) (by omega)
      rw [up2_o (by decide)] at this
      have e1 : nd (up2 A 72 k 0) n 1 = nd A n 1 := by rw [(on36 (A := up2 A 72 k 0) (B := A) (up2_rown (by decide))).1]
      have e2 : wdJ (some n) (k + 1) m (up2 A 72 k 0) = wdJ (some n) k (m + 1) A := by
        show itN n 0 ((nd (up2 A 72 k 0) n 1 + 255) / 256) _ = _
        rw [e1]
        rfl
      rw [e2] at this
      exact this
theorem writeDirty_wp {o : Option Nat} {most : Nat} (h : RM b0 J σ A N) (ho : ∀ n, o = some n → n < 64) (hm : most < 2147483648) (hd : dsk A 2000) (hu : 10000 ≤ fu) : wp (FR b0) σ (m_X12_writeDirty b0 fu (b0 + 35) (oI o) (nI most) σ) (fun v τ => RW b0 J N v τ (wdX o most A)) := by
  have b7 := hd.2.1
  have hd2 : dsk A (0 + A 35 7) := by
    obtain ⟨d1, d2, d3, d4, d5, d6, d7⟩ := hd
    exact ⟨d1, d2, d3, d4, by omega, by omega, d7⟩
  have := wp_grw (FR_good b0) (wd2 (K := 0) ho hm hu (A 35 7) 0 fu σ A h hd2 (by omega) (by omega))
  have e : wdX o most A = wdL most (A 35 7) 0 0 (wdJ o 0 (A 35 7) A) := by cases o <;> rfl
  rw [e]
  exact this
end WD
