/-! ===== PURE: the class begins anew: disk, space, tree, journal's numbers ===== -/
section BG2
variable {b0 fu : Nat} {σ τ ρ : tM} {C C' X : tS} {D D' : tD} {l r m k c q : Nat}
/-- the disk's arrays up to a block -/
def zD (C : tS) (k : Nat) : tS := fun p q => if (p = 2 ∨ p = 4 ∨ p = 5) ∧ q < k then 0 else C p q
def rsD (C : tS) (k n : Nat) : tS := up2 (up2 (up2 (up2 (up2 (up2 (up2 (zD C k) 1 8 n) 1 9 0) 1 10 0) 1 11 0) 1 12 0) 1 13 0) 1 14 1
theorem zD_s : up2 (up2 (up2 (zD C k) 2 k 0) 4 k 0) 5 k 0 = zD C (k + 1) := by
  funext p q
  unfold zD
  rw [up2_if, up2_if, up2_if]
  by_cases c1 : p = 5 ∧ q = k
  · rw [if_pos c1, if_pos (by omega)]
  · rw [if_neg c1]
    by_cases c2 : p = 4 ∧ q = k
    · rw [if_pos c2, if_pos (by omega)]
    · rw [if_neg c2]
      by_cases c3 : p = 2 ∧ q = k
      · rw [if_pos c3, if_pos (by omega)]
      · rw [if_neg c3]
        by_cases c4 : (p = 2 ∨ p = 4 ∨ p = 5) ∧ q < k
        · rw [if_pos c4, if_pos (by omega)]
        · rw [if_neg c4, if_neg (by omega)]
theorem zD_1 (q : Nat) : zD C k 1 q = C 1 q := by
  unfold zD
  rw [if_neg (by omega)]
theorem dkR2 {n : Nat} (hn : n ≤ 6130) (h8 : C 1 8 ≤ 6130) : ∀ m k f σ, CM b0 σ (zD C k) D → k + m = C 1 8 → m < f → wp (FC b0) σ (L_X0_reset_2 b0 fu f (b0 + 1) (nI n) (nI k) σ) (fun _ τ => CM b0 τ (rsD C (C 1 8) n) D) := by
  intro m
  induction m with
  | zero =>
    intro k f σ h hk hf
    obtain ⟨f, rfl⟩ : ∃ g, f = g + 1 := ⟨f - 1, by omega⟩
    have L := h.lay
    have ek : k = C 1 8 := by omega
    subst ek
    unfold L_X0_reset_2
    rw [ltb_def, ckC_1 L, cf_1_8 h.ca, zD_1, if_l (by omega) (by omega), if_pos (Nat.le_refl _), ltb_def]
    have e1 : (if (0 : Int32) < (if (6130 : Int32) < nI n then 6130 else nI n) then (if (6130 : Int32) < nI n then 6130 else nI n) else (0 : Int32)) = nI n := by
      rw [show (6130 : Int32) = nI 6130 from rfl, if_neg (show ¬ nI 6130 < nI n from fun q => by have := (nI_ltP (a := 6130) (b := n) (by omega) (by omega)).mp q; omega)]
      by_cases c : n = 0
      · subst c
        rfl
      · rw [if_pos (show (0 : Int32) < nI n from (nI_ltP (a := 0) (b := n) (by omega) (by omega)).mpr (by omega))]
    rw [e1]
    have k1 := CM_fix (o := 1) (j := 8) (x := n) (v := nI n) h rfl rfl (show n < 2147483648 by omega)
    have k2 := CM_fix (o := 1) (j := 9) (x := 0) (v := 0) k1 rfl rfl (by decide)
    have k3 := CM_fix (o := 1) (j := 10) (x := 0) (v := 0) k2 rfl rfl (by decide)
    have k4 := CM_fix (o := 1) (j := 11) (x := 0) (v := 0) k3 rfl rfl (by decide)
    have k5 := CM_fix (o := 1) (j := 12) (x := 0) (v := 0) k4 rfl rfl (by decide)
    have k6 := CM_fix (o := 1) (j := 13) (x := 0) (v := -1) k5 rfl (show (-1 : Int32) = nI 0 - 1 by decide) (by decide)
    have k7 := CM_fix (o := 1) (j := 14) (x := 1) (v := 1) k6 rfl rfl (by decide)
    exact wp_ret (FC_2 (FC_2 (FC_2 (FC_2 (FC_2 (FC_2 (FC_sI (o := 1) (j := 8) (v := nI n) h.rf (by omega)) (FC_sI (o := 1) (j := 9) (v := 0) k1.rf (by omega))) (FC_sI (o := 1) (j := 10) (v := 0) k2.rf (by omega))) (FC_sI (o := 1) (j := 11) (v := 0) k3.rf (by omega))) (FC_sI (o := 1) (j := 12) (v := 0) k4.rf (by omega))) (FC_sI (o := 1) (j := 13) (v := -1) k5.rf (by omega))) (FC_sI (o := 1) (j := 14) (v := 1) k6.rf (by omega))) k7
  | succ m ih =>
    intro k f σ h hk hf
    obtain ⟨f, rfl⟩ : ∃ g, f = g + 1 := ⟨f - 1, by omega⟩
    have L := h.lay
    unfold L_X0_reset_2
    have k1 := CM_fix (o := 2) (j := k) (x := 0) (v := 0) h rfl rfl (by decide)
    have k2 := CM_fix (o := 4) (j := k) (x := 0) (v := 0) k1 rfl rfl (by decide)
    have k3 := CM_fix (o := 5) (j := k) (x := 0) (v := 0) k2 rfl rfl (by decide)
    rw [zD_s] at k3
    rw [ltb_def, ckC_1 L, cf_1_8 h.ca, zD_1, if_l (by omega) (by omega), if_neg (by omega), osm_p (rfC_1_0 L), ckC_2 L, ckI_n (by omega) (by omega), nI_cl (by omega), osm_p (rfC_1_2 k1.lay), ckC_4 k1.lay, ckI_n (by omega) (by omega), osm_p (rfC_1_3 k2.lay), ckC_5 k2.lay, ckI_n (by omega) (by omega), ltb_def, ofi]
    exact wp_from (FC_good b0) (FC_2 (FC_2 (FC_sI (o := 2) (j := k) (v := 0) h.rf (by omega)) (FC_sI (o := 4) (j := k) (v := 0) k1.rf (by omega))) (FC_sI (o := 5) (j := k) (v := 0) k2.rf (by omega))) (ih (k + 1) f _ k3 (by omega) (by omega))
theorem dkReset_c {n : Nat} (hn : n ≤ 6130) (h8 : C 1 8 ≤ 6130) (hu : 7000 ≤ fu) (h : CM b0 σ C D) : wp (FC b0) σ (m_X0_reset b0 fu (b0 + 1) (nI n) σ) (fun _ τ => CM b0 τ (rsD C (C 1 8) n) D) := by
  have e : zD C 0 = C := by
    funext p q
    unfold zD
    rw [if_neg (by omega)]
  refine wp_grw (FC_good b0) ?_
  exact dkR2 hn h8 (C 1 8) 0 fu σ (by rw [e]; exact h) (by omega) (by omega)
/-- the space's cells that are read anew: nothing -/
def zL (C : tS) (c : Nat) : tS := fun p q => if p = 11 ∧ 32 ≤ q ∧ q < 32 * c then 0 else C p q
theorem zL_s (hc : 1 ≤ c) : ldR (zL C c) c (fun _ => 0) = zL C (c + 1) := by
  funext p q
  unfold ldR zL
  by_cases e : p = 11 ∧ c * 32 ≤ q ∧ q < c * 32 + 32
  · rw [if_pos e, if_pos (by omega)]
  · rw [if_neg e]
    by_cases d : p = 11 ∧ 32 ≤ q ∧ q < 32 * c
    · rw [if_pos d, if_pos (by omega)]
    · rw [if_neg d, if_neg (by omega)]
/-- what the space's own numbers are, behind reset -/
def S2p (l r : Nat) (C C' : tS) : Prop := (∀ p, p < 10 ∨ 18 ≤ p → C' p = C p) ∧ (C' 10 7 = 34 + r ∧ C' 10 8 = l ∧ C' 10 15 = 0 ∧ C' 10 14 = 34 ∧ C' 10 10 = 0 ∧ C' 10 11 = 0 ∧ C' 10 12 = 0 ∧ C' 10 13 = 0) ∧ (∀ q, q < 1088 → C' 11 q = if q < 32 then C 11 q else 0) ∧ (∀ x, 34 ≤ x → x < 34 + r → C' 12 x = 1) ∧ (∀ c, C' 15 c = 0 ∧ C' 16 c = 0 ∧ C' 17 c = 0) ∧ C' 10 9 = cn (fun c => C' 12 c == 1) 34 r
theorem ci_zero (h7 : 34 ≤ X 10 7 ∧ X 10 7 ≤ 2034 ∧ X 10 8 ≤ 4096) (h10 : X 10 11 = 0 ∧ X 10 12 = 0 ∧ X 10 13 = 0) (h15 : ∀ c, X 15 c = 0 ∧ X 16 c = 0 ∧ X 17 c = 0) : ci X := by
  refine ⟨h7, ⟨?_, ?_, ?_⟩, fun c _ => h15 c⟩
  · rw [h10.1, cn_all0 2034 0 (fun x _ _ => by rw [(h15 x).1]; rfl)]
  · rw [h10.2.1, cn_all0 2034 0 (fun x _ _ => by rw [(h15 x).2.1]; rfl)]
  · rw [h10.2.2, cn_all0 2034 0 (fun x _ _ => by rw [(h15 x).2.2]; rfl)]
/-- behind the forgetting of marks -/
def Y0 (C : tS) (l r : Nat) : tS := up2 (up2 (up2 C 10 7 (34 + r)) 10 8 l) 10 15 0
theorem spR34 (l1 : l ≤ 4096) (r2 : r ≤ 2000) (h10 : C 10 11 = 0 ∧ C 10 12 = 0 ∧ C 10 13 = 0) (h15 : ∀ c, C 15 c = 0 ∧ C 16 c = 0 ∧ C 17 c = 0) (hu : 3000 ≤ fu) : ∀ m c f σ, CM b0 σ (zL (Y0 C l r) c) D → c + m = 34 → 1 ≤ c → m < f → wp (FC b0) σ (L_X5_reset_34 b0 fu f (b0 + 10) (nI c) σ) (fun _ τ => ∃ C', CM b0 τ C' D ∧ S2p l r C C') := by
  intro m
  induction m with
  | zero =>
    intro c f σ h hk h1 hf
    obtain ⟨f, rfl⟩ : ∃ g, f = g + 1 := ⟨f - 1, by omega⟩
    have e : c = 34 := by omega
    subst e
    have L := h.lay
    unfold L_X5_reset_34
    rw [ltb_def, show (34 : Int32) = nI 34 from rfl, if_l (by omega) (by omega), if_pos (by omega), ckC_10 L]
    have zo : ∀ p, p ≠ 11 → zL (Y0 C l r) 34 p = Y0 C l r p := fun p hp => by
      funext q
      unfold zL
      rw [if_neg (fun e => hp e.1)]
    have yo : ∀ p, p ≠ 10 → Y0 C l r p = C p := fun p hp => by
      unfold Y0
      rw [up2_rown hp, up2_rown hp, up2_rown hp]
    have y10 : ∀ q, zL (Y0 C l r) 34 10 q = if q = 15 then 0 else if q = 8 then l else if q = 7 then 34 + r else C 10 q := fun q => by
      rw [zo 10 (by decide)]
      unfold Y0
      rw [up2_if, up2_if, up2_if]
      by_cases c1 : q = 15
      · rw [if_pos ⟨rfl, c1⟩, if_pos c1]
      · rw [if_neg (fun e => c1 e.2), if_neg c1]
        by_cases c2 : q = 8
        · rw [if_pos ⟨rfl, c2⟩, if_pos c2]
        · rw [if_neg (fun e => c2 e.2), if_neg c2]
          by_cases c3 : q = 7
          · rw [if_pos ⟨rfl, c3⟩, if_pos c3]
          · rw [if_neg (fun e => c3 e.2), if_neg c3]
    have e7 : zL (Y0 C l r) 34 10 7 = 34 + r := by rw [y10, if_neg (by decide), if_neg (by decide), if_pos rfl]
    have e8 : zL (Y0 C l r) 34 10 8 = l := by rw [y10, if_neg (by decide), if_pos rfl]
    have e15 : zL (Y0 C l r) 34 10 15 = 0 := by rw [y10, if_pos rfl]
    have m15 : ∀ c, zL (Y0 C l r) 34 15 c = 0 ∧ zL (Y0 C l r) 34 16 c = 0 ∧ zL (Y0 C l r) 34 17 c = 0 := fun c => by
      rw [zo 15 (by decide), zo 16 (by decide), zo 17 (by decide), yo 15 (by decide), yo 16 (by decide), yo 17 (by decide)]
      exact h15 c
    have hc : ci (zL (Y0 C l r) 34) := ci_zero ⟨by omega, by omega, by omega⟩ ⟨by rw [y10, if_neg (by decide), if_neg (by decide), if_neg (by decide)]; exact h10.1, by rw [y10, if_neg (by decide), if_neg (by decide), if_neg (by decide)]; exact h10.2.1, by rw [y10, if_neg (by decide), if_neg (by decide), if_neg (by decide)]; exact h10.2.2⟩ m15
    have w11 : ∀ q, q < 1088 → zL (Y0 C l r) 34 11 q = if q < 32 then C 11 q else 0 := fun q hq => by
      unfold zL
      by_cases c : q < 32
      · rw [if_neg (by omega), if_pos c, yo 11 (by decide)]
      · rw [if_pos ⟨rfl, by omega, by omega⟩, if_neg c]
    have w20 : ∀ p, p < 10 ∨ 18 ≤ p → zL (Y0 C l r) 34 p = C p := fun p hp => by rw [zo p (by omega), yo p (by omega)]
    refine wp_bind (FC_good b0) (readMap_c (fu := fu) h hc hu) ?_
    rintro _ ρ ⟨C', q1, q2⟩
    generalize zL (Y0 C l r) 34 = Z at *
    have d0 : (∀ p, p ≠ 10 → ¬ (15 ≤ p ∧ p ≤ 17) → rd0 Z p = Z p) ∧ (∀ c, rd0 Z 15 c = 0 ∧ rd0 Z 16 c = 0 ∧ rd0 Z 17 c = 0) ∧ (∀ q, rd0 Z 10 q = if q = 14 then 34 else if 9 ≤ q ∧ q ≤ 13 then 0 else Z 10 q) := by
      unfold rd0
      refine ⟨fun p hp hq => ?_, fun c => ?_, fun q => ?_⟩
      · funext j
        rw [up2_o hp, up2_o hp, up2_o hp]
        unfold emF clF
        rw [if_neg (by omega), if_neg hp, if_neg (by omega), if_neg (by omega)]
      · rw [up2_o (by decide), up2_o (by decide), up2_o (by decide), up2_o (by decide), up2_o (by decide), up2_o (by decide), up2_o (by decide), up2_o (by decide), up2_o (by decide)]
        unfold emF clF
        exact ⟨if_pos (Or.inl rfl), if_pos (Or.inr rfl), by rw [if_neg (by decide), if_neg (by decide), if_pos rfl]⟩
      · rw [up2_if, up2_if, up2_if]
        by_cases c1 : q = 14
        · rw [if_pos ⟨rfl, c1⟩, if_pos c1]
        · rw [if_neg (fun e => c1 e.2), if_neg c1]
          by_cases c2 : q = 10
          · rw [if_pos ⟨rfl, c2⟩, if_pos (by omega)]
          · rw [if_neg (fun e => c2 e.2)]
            by_cases c3 : q = 9
            · rw [if_pos ⟨rfl, c3⟩, if_pos (by omega)]
            · rw [if_neg (fun e => c3 e.2)]
              unfold emF clF
              rw [if_neg (by decide), if_pos rfl]
              by_cases c4 : q = 11 ∨ q = 12
              · rw [if_pos c4, if_pos (by omega)]
              · rw [if_neg c4]
                by_cases c5 : q = 16
                · rw [if_pos c5, if_neg (by omega), c5]
                · rw [if_neg c5, if_neg (by decide)]
                  by_cases c6 : q = 13
                  · rw [if_pos ⟨rfl, c6⟩, if_pos (by omega)]
                  · rw [if_neg (fun e => c6 e.2), if_neg (by omega)]
    obtain ⟨d1, d2, d3⟩ := d0
    obtain ⟨f1, f2, f3, f4⟩ := q2
    rw [e7] at f3 f4
    have c12 : ∀ x, 34 ≤ x → x < 34 + r → C' 12 x = fbM (rd0 Z) x := fun x h1 h2 => by rw [f3, if_pos ⟨h1, h2⟩]
    have fb : ∀ x, 34 ≤ x → x < 34 + r → fbM (rd0 Z) x = 1 := fun x h1 h2 => by
      have e0 : rd0 Z 11 (32 + (x - 34) / 64) = 0 := by rw [d1 11 (by decide) (by omega), w11 _ (by omega), if_neg (by omega)]
      unfold fbM
      rw [e0, Nat.zero_div]
      rfl
    refine wp_ret ((FC_good b0).1 _) ⟨C', q1, fun p hp => ?_, ⟨?_, ?_, ?_, ?_, ?_, ?_, ?_, ?_⟩, fun q hq => ?_, fun x h1 h2 => by rw [c12 x h1 h2, fb x h1 h2], fun c => ?_, ?_⟩
    · rw [f1 p (by omega) (by omega), d1 p (by omega) (by omega), w20 p hp]
    · rw [f2 7 (by decide), d3, if_neg (by decide), if_neg (by omega), e7]
    · rw [f2 8 (by decide), d3, if_neg (by decide), if_neg (by omega), e8]
    · rw [f2 15 (by decide), d3, if_neg (by decide), if_neg (by omega), e15]
    · rw [f2 14 (by decide), d3, if_pos rfl]
    · rw [f2 10 (by decide), d3, if_neg (by decide), if_pos (by omega)]
    · rw [f2 11 (by decide), d3, if_neg (by decide), if_pos (by omega)]
    · rw [f2 12 (by decide), d3, if_neg (by decide), if_pos (by omega)]
    · rw [f2 13 (by decide), d3, if_neg (by decide), if_pos (by omega)]
    · rw [f1 11 (by decide) (by decide), d1 11 (by decide) (by omega), w11 q hq]
    · rw [f1 15 (by decide) (by decide), f1 16 (by decide) (by decide), f1 17 (by decide) (by decide)]
      exact d2 c
    · rw [f4, show 34 + r - 34 = r by omega]
      exact cn_congr r 34 (fun x h1 h2 => by rw [c12 x h1 (by omega)])
  | succ m ih =>
    intro c f σ h hk h1 hf
    obtain ⟨f, rfl⟩ : ∃ g, f = g + 1 := ⟨f - 1, by omega⟩
    have L := h.lay
    unfold L_X5_reset_34
    rw [ltb_def, show (34 : Int32) = nI 34 from rfl, if_l (by omega) (by omega), if_neg (by omega), ckC_10 L]
    refine wp_bind (FC_good b0) (load0_c (fu := fu) h (by omega) (by omega) (by omega)) ?_
    intro _ ρ q
    rw [zL_s h1] at q
    rw [ltb_def, ofi]
    exact ih (c + 1) f ρ q (by omega) (by omega) (by omega)
theorem emcl : (∀ p, p ≠ 10 → ¬ (15 ≤ p ∧ p ≤ 17) → ∀ g, emF (clF C) g p = C p) ∧ (∀ g c, emF (clF C) g 15 c = 0 ∧ emF (clF C) g 16 c = 0 ∧ emF (clF C) g 17 c = 0) ∧ ∀ g, emF (clF C) g 10 11 = 0 ∧ emF (clF C) g 10 12 = 0 ∧ emF (clF C) g 10 13 = 0 := by
  refine ⟨fun p hp hq g => ?_, fun g c => ?_, fun g => ?_⟩
  · funext j
    unfold emF clF
    rw [if_neg (by omega), if_neg hp, if_neg (by omega), if_neg (by omega)]
  · unfold emF clF
    exact ⟨if_pos (Or.inl rfl), if_pos (Or.inr rfl), by rw [if_neg (by decide), if_neg (by decide), if_pos rfl]⟩
  · unfold emF clF
    exact ⟨by rw [if_neg (by decide), if_pos rfl, if_pos (Or.inl rfl)], by rw [if_neg (by decide), if_pos rfl, if_pos (Or.inr rfl)], by rw [if_neg (by decide), if_pos rfl, if_neg (by decide), if_neg (by decide), if_neg (by decide), if_pos ⟨rfl, rfl⟩]⟩
/-- from the marks on -/
theorem spB_c (l1 : l ≤ 4096) (r1 : 1 ≤ r) (r2 : r ≤ 2000) (h10 : C 10 11 = 0 ∧ C 10 12 = 0 ∧ C 10 13 = 0) (h15 : ∀ c, C 15 c = 0 ∧ C 16 c = 0 ∧ C 17 c = 0) (hu : 3000 ≤ fu) (h : CM b0 σ C D) : wp (FC b0) σ (ckO b0 σ (b0 + 10) 5 (L_X5_reset_34 b0 fu fu (b0 + 10) 1 (sI (sI (sI σ (b0 + 10) 7 (34 + (if (0 : Int32) < (if (2000 : Int32) < nI r then 2000 else nI r) then (if (2000 : Int32) < nI r then 2000 else nI r) else (0 : Int32)))) (b0 + 10) 8 (nI l)) (b0 + 10) 15 0))) (fun _ τ => ∃ C', CM b0 τ C' D ∧ S2p l r C C') := by
  have e1 : (34 : Int32) + (if (0 : Int32) < (if (2000 : Int32) < nI r then 2000 else nI r) then (if (2000 : Int32) < nI r then 2000 else nI r) else (0 : Int32)) = nI (34 + r) := by
    rw [show (2000 : Int32) = nI 2000 from rfl, if_neg (show ¬ nI 2000 < nI r from fun q => by have := (nI_ltP (a := 2000) (b := r) (by omega) (by omega)).mp q; omega), if_pos (show (0 : Int32) < nI r from (nI_ltP (a := 0) (b := r) (by omega) (by omega)).mpr (by omega))]
    exact nI_add 34 r
  rw [e1, ckC_10 h.lay]
  have k1 := CM_fix (o := 10) (j := 7) (x := 34 + r) (v := nI (34 + r)) h rfl rfl (show 34 + r < 2147483648 by omega)
  have k2 := CM_fix (o := 10) (j := 8) (x := l) (v := nI l) k1 rfl rfl (show l < 2147483648 by omega)
  have k3 := CM_fix (o := 10) (j := 15) (x := 0) (v := 0) k2 rfl rfl (by decide)
  have e : zL (Y0 C l r) 1 = Y0 C l r := by
    funext p q
    unfold zL
    rw [if_neg (by omega)]
  exact wp_from (FC_good b0) (FC_2 (FC_2 (FC_sI (o := 10) (j := 7) (v := nI (34 + r)) h.rf (by omega)) (FC_sI (o := 10) (j := 8) (v := nI l) k1.rf (by omega))) (FC_sI (o := 10) (j := 15) (v := 0) k2.rf (by omega))) (spR34 l1 r2 h10 h15 hu 33 1 fu _ (by rw [e]; exact k3) (by omega) (by omega) (by omega))
theorem spReset_c (l1 : l ≤ 4096) (r1 : 1 ≤ r) (r2 : r ≤ 2000) (hc : ci C) (hu : 3000 ≤ fu) (h : CM b0 σ C D) : wp (FC b0) σ (m_X5_reset b0 fu (b0 + 10) (nI l) (nI r) σ) (fun _ τ => ∃ C', CM b0 τ C' D ∧ S2p l r C C') := by
  refine wp_grw (FC_good b0) ?_
  rw [ckC_10 h.lay]
  refine wp_bind (FC_good b0) (forgetMarks_c (fu := fu) h hc hu) ?_
  intro _ ρ q
  obtain ⟨m1, m2, m3⟩ := emcl (C := C)
  refine wp_mono (spB_c (fu := fu) l1 r1 r2 (m3 _) (m2 _) hu q) (fun _ τ _ y => ?_)
  obtain ⟨C', y1, y2, y3, y4, y5⟩ := y
  refine ⟨C', y1, fun p hp => by rw [y2 p hp, m1 p (by omega) (by omega)], y3, fun q hq => ?_, y5⟩
  rw [y4 q hq, m1 11 (by decide) (by omega)]
end BG2
