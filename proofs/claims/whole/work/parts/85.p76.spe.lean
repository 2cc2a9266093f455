/-! ===== PURE: the class's Space: emptyGroup, forgetMarks, freeRetired, obtain, release ===== -/
/-- no mark of the group is left -/
def emF (C : tS) (g : Nat) : tS := fun p q => if p = 15 ∨ p = 16 then 0 else if p = 10 then (if q = 11 ∨ q = 12 then 0 else if q = 16 then g else C 10 q) else C p q
def clF (C : tS) : tS := fun p q => if p = 17 then 0 else if p = 10 ∧ q = 13 then 0 else C p q
/-- free and retired cells are counted; no cell below the lowest is free -/
def sk (C : tS) : Prop := C 10 9 = cn (fun c => C 12 c == 1) 34 (C 10 7 - 34) ∧ C 10 10 = cn (fun c => decide (1 < C 12 c)) 34 (C 10 7 - 34) ∧ (34 ≤ C 10 14 ∧ C 10 14 ≤ C 10 7) ∧ ∀ c, 34 ≤ c → c < C 10 14 → C 12 c ≠ 1
def obC (C : tS) (c n : Nat) (mt : Bool) : tS := (fun X => if mt then touC X c else X) (touC (mrkC (ldR (adoC (up2 (up2 (up2 C 10 14 c) 10 9 (C 10 9 - 1)) 10 15 (C 10 15 + 1)) c (C 10 15 + 1) n) c (fun _ => 0)) c true) 1)
def relC (C : tS) (c : Nat) (mt : Bool) : tS := if 34 ≤ c ∧ c < C 10 7 ∧ C 12 c = 0 then (fun X => if mt then rvkC X c else X) (cleC (touC (mrkC (up2 (up2 C 12 c (C 10 16 + 1)) 10 10 (C 10 10 + 1)) c false) 1) c) else C
/-- what freeRetired leaves -/
def frP (d : Nat) (C C' : tS) : Prop := sk C' ∧ (∀ c, C' 12 c = if 34 ≤ c ∧ c < C 10 7 ∧ 1 < C 12 c ∧ C 12 c - 1 ≤ d then 1 else C 12 c) ∧ ∀ p q, p ≠ 12 → ¬ (p = 10 ∧ (q = 9 ∨ q = 10 ∨ q = 14)) → C' p q = C p q
section SR
variable {b0 fu : Nat} {σ τ : tM} {C : tS} {D : tD}
theorem cn_0 {p : Nat → Bool} : ∀ m k, cn p k m = 0 → ∀ x, k ≤ x → x < k + m → p x = false
  | 0, _, _, x, h1, h2 => by omega
  | m + 1, k, h, x, h1, h2 => by
    cases e : p x with
    | false => rfl
    | true =>
      have := cn_pos e (m + 1) k h1 h2
      omega
theorem cn_all0 {p : Nat → Bool} : ∀ m k, (∀ x, k ≤ x → x < k + m → p x = false) → cn p k m = 0
  | 0, _, _ => rfl
  | m + 1, k, h => by
    unfold cn
    rw [h k (Nat.le_refl _) (by omega), cn_all0 m (k + 1) (fun x h1 h2 => h x (by omega) (by omega))]
    rfl
theorem emp2 {g : Nat} (hg : g < 2147483648) : ∀ m c f σ C, CM b0 σ C D → C 10 7 ≤ 2034 → c + m = C 10 7 → C 10 11 = cn (fun k => C 15 k != 0) c (2034 - c) → C 10 12 = cn (fun k => C 16 k != 0) c (2034 - c) → (∀ k, k < c ∨ C 10 7 ≤ k → C 15 k = 0 ∧ C 16 k = 0) → m < f → wp (FC b0) σ (L_X5_emptyGroup_2 b0 fu f (b0 + 10) (nI g) (nI c) σ) (fun _ τ => CM b0 τ (emF C g) D) := by
  intro m
  induction m with
  | zero =>
    intro c f σ C h h7 hc h11 h12 hz hf
    obtain ⟨f, rfl⟩ : ∃ q, f = q + 1 := ⟨f - 1, by omega⟩
    have L := h.lay
    have z15 : ∀ k, C 15 k = 0 ∧ C 16 k = 0 := fun k => hz k (by omega)
    have e11 : C 10 11 = 0 := by rw [h11]; exact cn_all0 _ _ (fun x _ _ => by simp [(z15 x).1])
    have e12 : C 10 12 = 0 := by rw [h12]; exact cn_all0 _ _ (fun x _ _ => by simp [(z15 x).2])
    unfold L_X5_emptyGroup_2 J_X5_emptyGroup_72
    rw [ltb_def, ckC_10 L, cf_10_7 h.ca, if_l (by omega) (by omega), if_pos (by omega), ckC_10 L]
    have e : emF C g = up2 C 10 16 g := by
      funext p q
      unfold emF up2
      by_cases p1 : p = 15 ∨ p = 16
      · rw [if_pos p1, if_neg (by omega)]
        rcases p1 with rfl | rfl
        · exact (z15 q).1.symm
        · exact (z15 q).2.symm
      · rw [if_neg p1]
        by_cases p2 : p = 10
        · subst p2
          rw [if_pos rfl, if_pos rfl]
          by_cases q1 : q = 11 ∨ q = 12
          · rw [if_pos q1, if_neg (by omega)]
            rcases q1 with rfl | rfl
            · exact e11.symm
            · exact e12.symm
          · rw [if_neg q1]
        · rw [if_neg p2, if_neg p2]
    rw [e]
    exact wp_ret (FC_sI h.rf (by omega)) (CM_fix (o := 10) (j := 16) h rfl rfl hg)
  | succ m ih =>
    intro c f σ C h h7 hc h11 h12 hz hf
    obtain ⟨f, rfl⟩ : ∃ q, f = q + 1 := ⟨f - 1, by omega⟩
    have L := h.lay
    have b15 := cb_15 h.ca c
    have b16 := cb_16 h.ca c
    have l11 : C 10 11 ≤ 2034 := by rw [h11]; exact Nat.le_trans (cn_le _ _ _) (by omega)
    have l12 : C 10 12 ≤ 2034 := by rw [h12]; exact Nat.le_trans (cn_le _ _ _) (by omega)
    unfold L_X5_emptyGroup_2 J_X5_emptyGroup_72
    rw [ltb_def, ckC_10 L, cf_10_7 h.ca, if_l (by omega) (by omega), if_neg (by omega), cf_10_11 h.ca, cf_10_12 h.ca, nI_add]
    show wp (FC b0) σ (if nI (C 10 11 + C 10 12) ≤ nI 0 then _ else _) _
    rw [if_l (by omega) (by omega)]
    by_cases z : C 10 11 + C 10 12 ≤ 0
    · rw [if_pos z, ckC_10 L]
      have f15 : ∀ k, C 15 k = 0 ∧ C 16 k = 0 := by
        intro k
        by_cases q : k < c ∨ C 10 7 ≤ k
        · exact hz k q
        · have a1 := cn_0 _ _ (h11.symm.trans (show C 10 11 = 0 by omega)) k (by omega) (by omega)
          have a2 := cn_0 _ _ (h12.symm.trans (show C 10 12 = 0 by omega)) k (by omega) (by omega)
          simp at a1 a2
          exact ⟨a1, a2⟩
      have e : emF C g = up2 C 10 16 g := by
        funext p q
        unfold emF up2
        by_cases p1 : p = 15 ∨ p = 16
        · rw [if_pos p1, if_neg (by omega)]
          rcases p1 with rfl | rfl
          · exact (f15 q).1.symm
          · exact (f15 q).2.symm
        · rw [if_neg p1]
          by_cases p2 : p = 10
          · subst p2
            rw [if_pos rfl, if_pos rfl]
            by_cases q1 : q = 11 ∨ q = 12
            · rw [if_pos q1, if_neg (by omega)]
              rcases q1 with rfl | rfl
              · omega
              · omega
            · rw [if_neg q1]
          · rw [if_neg p2, if_neg p2]
      rw [e]
      exact wp_ret (FC_sI h.rf (by omega)) (CM_fix (o := 10) (j := 16) h rfl rfl hg)
    · rw [if_neg z]
      have s11 : C 10 11 = C 15 c + cn (fun k => C 15 k != 0) (c + 1) (2034 - (c + 1)) := by
        rw [h11, show 2034 - c = (2034 - (c + 1)) + 1 by omega]
        show (if (C 15 c != 0) = true then 1 else 0) + _ = _
        by_cases q : C 15 c = 0
        · rw [if_neg (by simp [q]), q]
        · rw [if_pos (by simp [q]), show C 15 c = 1 by omega]
      have s12 : C 10 12 = C 16 c + cn (fun k => C 16 k != 0) (c + 1) (2034 - (c + 1)) := by
        rw [h12, show 2034 - c = (2034 - (c + 1)) + 1 by omega]
        show (if (C 16 c != 0) = true then 1 else 0) + _ = _
        by_cases q : C 16 c = 0
        · rw [if_neg (by simp [q]), q]
        · rw [if_pos (by simp [q]), show C 16 c = 1 by omega]
      simp only [ckR_sI, rd_AI]
      rw [osm_p (rfC_10_4 L), ckC_15 L, ckI_n (by omega) (by omega), nI_cl (by omega), cd_15 h.ca, osm_p (rfC_10_5 L), ckC_16 L, ckI_n (by omega) (by omega), nI_sb (show C 15 c ≤ C 10 11 by omega)]
      have h1 : CM b0 (sI σ (b0 + 10) 11 (nI (C 10 11 - C 15 c))) (up2 C 10 11 (C 10 11 - C 15 c)) D := CM_fix (o := 10) (j := 11) h rfl rfl (by show _ < 2147483648; omega)
      rw [cf_10_12 h1.ca, cd_16 h1.ca, up2_j (by decide), up2_o (by decide), nI_sb (show C 16 c ≤ C 10 12 by omega), ltb_def]
      have h2 : CM b0 (sI (sI σ (b0 + 10) 11 (nI (C 10 11 - C 15 c))) (b0 + 10) 12 (nI (C 10 12 - C 16 c))) (up2 (up2 C 10 11 (C 10 11 - C 15 c)) 10 12 (C 10 12 - C 16 c)) D := CM_fix (o := 10) (j := 12) h1 rfl rfl (by show _ < 2147483648; omega)
      have L2 := h2.lay
      rw [osm_p (rfC_10_4 L2), ckC_15 L2, ckI_n (by omega) (by omega), osm_p (rfC_10_5 L2), ckC_16 L2, ckI_n (by omega) (by omega), ltb_def, ofi]
      have h3 := CM_fix (o := 15) (j := c) (x := 0) (v := vp_nar .byte 0) h2 rfl vy0 (by decide)
      have h4 := CM_fix (o := 16) (j := c) (x := 0) (v := vp_nar .byte 0) h3 rfl vy0 (by decide)
      refine wp_from (FC_good b0) (FC_2 (FC_sI h.rf (by omega)) (FC_2 (FC_sI h1.rf (by omega)) (FC_2 (FC_sI h2.rf (by omega)) (FC_sI (o := 16) (j := c) (v := vp_nar .byte 0) h3.rf (by omega))))) ?_
      generalize hX : up2 (up2 (up2 (up2 C 10 11 (C 10 11 - C 15 c)) 10 12 (C 10 12 - C 16 c)) 15 c 0) 16 c 0 = X at h4
      have x10 : ∀ q, q ≠ 11 → q ≠ 12 → X 10 q = C 10 q := by
        intro q q1 q2
        rw [← hX, up2_o (by decide), up2_o (by decide), up2_j q2, up2_j q1]
      have x11 : X 10 11 = C 10 11 - C 15 c := by rw [← hX, up2_o (by decide), up2_o (by decide), up2_j (by decide), up2_s]
      have x12 : X 10 12 = C 10 12 - C 16 c := by rw [← hX, up2_o (by decide), up2_o (by decide), up2_s]
      have x15 : ∀ k, X 15 k = if k = c then 0 else C 15 k := by
        intro k
        rw [← hX, up2_o (by decide)]
        by_cases q : k = c
        · rw [if_pos q, q, up2_s]
        · rw [if_neg q, up2_j q, up2_o (by decide), up2_o (by decide)]
      have x16 : ∀ k, X 16 k = if k = c then 0 else C 16 k := by
        intro k
        rw [← hX]
        by_cases q : k = c
        · rw [if_pos q, q, up2_s]
        · rw [if_neg q, up2_j q, up2_o (by decide), up2_o (by decide), up2_o (by decide)]
      have xo : ∀ p q, p ≠ 10 → p ≠ 15 → p ≠ 16 → X p q = C p q := by
        intro p q p1 p2 p3
        rw [← hX, up2_o p3, up2_o p2, up2_o p1, up2_o p1]
      have := ih (c + 1) f _ X h4 (by rw [x10 7 (by decide) (by decide)]; exact h7) (by rw [x10 7 (by decide) (by decide)]; omega) (by
        rw [x11, cn_congr (q := fun k => C 15 k != 0) _ _ (fun i i1 i2 => by rw [x15, if_neg (by omega)])]
        omega) (by
        rw [x12, cn_congr (q := fun k => C 16 k != 0) _ _ (fun i i1 i2 => by rw [x16, if_neg (by omega)])]
        omega) (fun k hk => by
        rw [x10 7 (by decide) (by decide)] at hk
        rw [x15, x16]
        by_cases q : k = c
        · rw [if_pos q, if_pos q]
          exact ⟨rfl, rfl⟩
        · rw [if_neg q, if_neg q]
          exact hz k (by omega)) (by omega)
      have e : emF X g = emF C g := by
        funext p q
        unfold emF
        by_cases p1 : p = 15 ∨ p = 16
        · rw [if_pos p1, if_pos p1]
        · rw [if_neg p1, if_neg p1]
          by_cases p2 : p = 10
          · rw [if_pos p2, if_pos p2]
            by_cases q1 : q = 11 ∨ q = 12
            · rw [if_pos q1, if_pos q1]
            · rw [if_neg q1, if_neg q1]
              by_cases q2 : q = 16
              · rw [if_pos q2, if_pos q2]
              · rw [if_neg q2, if_neg q2]
                exact x10 q (by omega) (by omega)
          · rw [if_neg p2, if_neg p2]
            exact xo p q p2 (by omega) (by omega)
      rw [e] at this
      exact this
theorem emptyGroup_c (h : CM b0 σ C D) (hc : ci C) {g : Nat} (hg : g < 2147483648) (hu : 3000 ≤ fu) : wp (FC b0) σ (m_X5_emptyGroup b0 fu (b0 + 10) (nI g) σ) (fun _ τ => CM b0 τ (emF C g) D) := by
  obtain ⟨⟨c1, c2, c3⟩, ⟨c4, c5, c6⟩, c7⟩ := hc
  exact wp_grw (FC_good b0) (emp2 hg (C 10 7) 0 fu σ C h c2 (by omega) c4 c5 (fun k hk => ⟨(c7 k (by omega)).1, (c7 k (by omega)).2.1⟩) (by omega))
theorem ci_em {g : Nat} (hc : ci C) : ci (emF C g) := by
  obtain ⟨⟨c1, c2, c3⟩, ⟨c4, c5, c6⟩, c7⟩ := hc
  have e7 : emF C g 10 7 = C 10 7 := rfl
  have e8 : emF C g 10 8 = C 10 8 := rfl
  refine ⟨⟨by rw [e7]; exact c1, by rw [e7]; exact c2, by rw [e8]; exact c3⟩, ⟨?_, ?_, ?_⟩, fun c q => ⟨rfl, rfl, ?_⟩⟩
  · exact (cn_all0 _ _ (fun x _ _ => rfl)).symm
  · exact (cn_all0 _ _ (fun x _ _ => rfl)).symm
  · exact c6
  · rw [e7] at q
    exact (c7 c q).2.2
end SR
