/-! ===== PURE: the class before there is a reference (written by wip/gen/gen_cz.py): its methods ===== -/
section CZ22
variable {b0 fu : Nat} {σ τ : tM} {C : tS} {D : tD}
theorem word_cz (h : CAz b0 σ C) (hc : ci C) {c i : Nat} (hx : c < 2147483648) (hi : i < 32) : m_X5_word b0 fu (b0 + 10) (nI c) (nI i) σ = some (lN (woC C c i), σ) := by
  have L := h.lay
  have := hc.1.2.1
  unfold m_X5_word J_X5_word_22 J_X5_word_37 woC
  rw [if_neg (nI_pos hx), ckC_10z L, cf_10_7z h, if_l (by omega) hx, if_neg (nI_pos (by omega)), show (32 : Int32) = nI 32 from rfl, if_t (by omega) (by omega), if_pos hi]
  by_cases e1 : C 10 7 ≤ c
  · rw [if_pos e1, if_neg (by omega)]
    exact grw_same
  · rw [if_neg e1, if_pos (by omega), osm_p (rfC_10_0z L), ckC_11z L]
    have := ix32 c i
    rw [show (32 : Int32) = nI 32 from rfl] at this
    rw [this, ckI_n (by omega) (by omega), nI_cl (by omega), cd_11z h]
    exact grw_same
end CZ22
section CZ23
variable {b0 fu : Nat} {σ τ : tM} {C : tS} {D : tD}
theorem touch_cz (h : CMz b0 σ C D) (hc : ci C) {c : Nat} (hx : c < 2147483648) : wp (FCz b0) σ (m_X5_touch b0 fu (b0 + 10) (nI c) σ) (fun _ τ => CMz b0 τ (touC C c) D) := by
  have L := h.lay
  have := hc.1.2.1
  have b := cb_15z h.ca c
  have b11 := (ci_b hc).1
  refine wp_grw (FC_goodz b0) ?_
  unfold J_X5_touch_38 touC
  show wp (FCz b0) σ (if nI c ≤ nI 0 then _ else _) _
  rw [if_l hx (by omega), ckC_10z L, cf_10_7z h.ca, if_l (by omega) hx]
  by_cases e0 : c ≤ 0
  · rw [if_pos e0, if_neg (by omega)]
    exact wp_ret ((FC_goodz b0).1 _) h
  rw [if_neg e0]
  by_cases e1 : C 10 7 ≤ c
  · rw [if_pos e1, if_neg (by omega)]
    exact wp_ret ((FC_goodz b0).1 _) h
  rw [if_neg e1, osm_p (rfC_10_4z L), ckC_15z L, ckI_n (by omega) (by omega), nI_cl hx, cd_15z h.ca, osm_p (rfC_10_4z L), ckC_15z L, ckI_n (by omega) (by omega)]
  show wp (FCz b0) σ (if nI (C 15 c) = nI 0 then _ else _) _
  rw [if_e (by omega) (by omega)]
  by_cases e2 : C 15 c = 0
  · rw [if_pos e2, if_pos ⟨by omega, by omega, e2⟩]
    have h1 : CMz b0 (sI σ (b0 + 15) c (vp_nar .byte 1)) (up2 C 15 c 1) D := CM_fixz (o := 15) h rfl vy1 (by decide)
    rw [cf_10_11z h1.ca, up2_o (by decide), show nI (C 10 11) + (1 : Int32) = nI (C 10 11 + 1) from nI_add _ 1]
    exact wp_ret (FC_2z (FC_sIz h.rf (by omega)) (FC_sIz h1.rf (by omega))) (CM_fixz (o := 10) (j := 11) (x := C 10 11 + 1) h1 rfl rfl (by show _ < 2147483648; omega))
  · rw [if_neg e2, if_neg (fun r => e2 r.2.2)]
    exact wp_ret ((FC_goodz b0).1 _) h
end CZ23
section CZ24
variable {b0 fu : Nat} {σ τ : tM} {C : tS} {D : tD}
theorem clean_cz (h : CMz b0 σ C D) (hc : ci C) {c : Nat} (hx : c < 2147483648) : wp (FCz b0) σ (m_X5_clean b0 fu (b0 + 10) (nI c) σ) (fun _ τ => CMz b0 τ (cleC C c) D) := by
  have L := h.lay
  have := hc.1.2.1
  have b := cb_17z h.ca c
  have b11 := (ci_b hc).2.2
  refine wp_grw (FC_goodz b0) ?_
  unfold J_X5_clean_38 cleC
  show wp (FCz b0) σ (if nI c ≤ nI 0 then _ else _) _
  rw [if_l hx (by omega), ckC_10z L, cf_10_7z h.ca, if_l (by omega) hx]
  by_cases e0 : c ≤ 0
  · rw [if_pos e0, if_neg (by omega)]
    exact wp_ret ((FC_goodz b0).1 _) h
  rw [if_neg e0]
  by_cases e1 : C 10 7 ≤ c
  · rw [if_pos e1, if_neg (by omega)]
    exact wp_ret ((FC_goodz b0).1 _) h
  rw [if_neg e1, osm_p (rfC_10_6z L), ckC_17z L, ckI_n (by omega) (by omega), nI_cl hx, cd_17z h.ca, osm_p (rfC_10_6z L), ckC_17z L, ckI_n (by omega) (by omega)]
  show wp (FCz b0) σ (if nI (C 17 c) = nI 0 then _ else _) _
  rw [if_e (by omega) (by omega)]
  by_cases e2 : C 17 c = 0
  · rw [if_pos e2, if_neg (fun r => r.2.2 e2)]
    exact wp_ret ((FC_goodz b0).1 _) h
  · rw [if_neg e2, if_pos ⟨by omega, by omega, e2⟩]
    have p1 : 0 < C 10 13 := by
      rw [hc.2.1.2.2]
      exact cn_pos (x := c) (by simp [e2]) 2034 0 (by omega) (by omega)
    have h1 : CMz b0 (sI σ (b0 + 17) c (vp_nar .byte 0)) (up2 C 17 c 0) D := CM_fixz (o := 17) h rfl vy0 (by decide)
    rw [cf_10_13z h1.ca, up2_o (by decide), show nI (C 10 13) - (1 : Int32) = nI (C 10 13 - 1) from nI_sb (b := 1) (by omega)]
    exact wp_ret (FC_2z (FC_sIz h.rf (by omega)) (FC_sIz h1.rf (by omega))) (CM_fixz (o := 10) (j := 13) (x := C 10 13 - 1) h1 rfl rfl (by show _ < 2147483648; omega))
end CZ24
section CZ25
variable {b0 fu : Nat} {σ τ : tM} {C : tS} {D : tD}
theorem load37z {c : Nat} (hc : c < 2034) : ∀ m k f σ C, CMz b0 σ C D → k + m = 32 → m < f → wp (FCz b0) σ (L_X5_load_37 b0 fu f (b0 + 10) (nI c) (nI k) σ) (fun _ τ => CMz b0 τ (fl 11 0 (c * 32 + k) m C) D) := by
  intro m
  induction m with
  | zero =>
    intro k f σ C h hk hf
    obtain ⟨f, rfl⟩ : ∃ q, f = q + 1 := ⟨f - 1, by omega⟩
    unfold L_X5_load_37
    rw [ltb_def, show (32 : Int32) = nI 32 from rfl, if_l (by omega) (by omega), if_pos (by omega)]
    exact wp_ret ((FC_goodz b0).1 _) h
  | succ m ih =>
    intro k f σ C h hk hf
    obtain ⟨f, rfl⟩ : ∃ q, f = q + 1 := ⟨f - 1, by omega⟩
    have L := h.lay
    unfold L_X5_load_37
    rw [ltb_def, ckC_10z L, osm_p (rfC_10_0z L), ckC_11z L, ix32, show (32 : Int32) = nI 32 from rfl, if_l (by omega) (by omega), if_neg (by omega), ckI_n (by omega) (by omega), nI_cl (by omega), ltb_def, ofi]
    refine wp_from (FC_goodz b0) (FC_sLz (o := 11) (j := c * 32 + k) (v := 0) h.rf (by omega)) ?_
    exact ih (k + 1) f _ _ (CM_fixLz (j := c * 32 + k) (x := 0) h (by decide)) (by omega) (by omega)
end CZ25
section CZ26
variable {b0 fu : Nat} {σ τ : tM} {C : tS} {D : tD}
theorem load0_cz (h : CMz b0 σ C D) {c : Nat} (h0 : 0 < c) (h1 : c < 2034) (hu : 100 ≤ fu) : wp (FCz b0) σ (m_X5_load b0 fu (b0 + 10) (nI c) none σ) (fun _ τ => CMz b0 τ (ldR C c (fun _ => 0)) D) := by
  refine wp_grw (FC_goodz b0) ?_
  show wp (FCz b0) σ (if nI c ≤ nI 0 then _ else if nI c < nI 2034 then L_X5_load_37 b0 fu fu (b0 + 10) (nI c) 0 σ else _) _
  rw [if_l (by omega) (by omega), if_neg (by omega), if_t (by omega) (by omega), if_pos h1]
  refine wp_mono (load37z h1 32 0 fu σ C h (by omega) (by omega)) ?_
  intro _ ρ _ q
  have e : fl 11 0 (c * 32 + 0) 32 C = ldR C c (fun _ => 0) := by
    funext p q
    rw [fl_at]
    rfl
  rw [e] at q
  exact q
end CZ26
section CZ27
variable {b0 fu : Nat} {σ τ : tM} {C : tS} {D : tD}
theorem emp2z {g : Nat} (hg : g < 2147483648) : ∀ m c f σ C, CMz b0 σ C D → C 10 7 ≤ 2034 → c + m = C 10 7 → C 10 11 = cn (fun k => C 15 k != 0) c (2034 - c) → C 10 12 = cn (fun k => C 16 k != 0) c (2034 - c) → (∀ k, k < c ∨ C 10 7 ≤ k → C 15 k = 0 ∧ C 16 k = 0) → m < f → wp (FCz b0) σ (L_X5_emptyGroup_2 b0 fu f (b0 + 10) (nI g) (nI c) σ) (fun _ τ => CMz b0 τ (emF C g) D) := by
  intro m
  induction m with
  | zero =>
    intro c f σ C h h7 hc h11 h12 hz hf
    obtain ⟨f, rfl⟩ : ∃ q, f = q + 1 := ⟨f - 1, by omega⟩
    have L := h.lay
    have z15 : ∀ k, C 15 k = 0 ∧ C 16 k = 0 := fun k => hz k (by omega)
    have e11 : C 10 11 = 0 := by rw [h11]; exact cn_all0 _ _ (fun x _ _ => by simp [(z15 x).1])
    have e12 : C 10 12 = 0 := by rw [h12]; exact cn_all0 _ _ (fun x _ _ => by simp [(z15 x).2])
    unfold L_X5_emptyGroup_2 J_X5_emptyGroup_72
    rw [ltb_def, ckC_10z L, cf_10_7z h.ca, if_l (by omega) (by omega), if_pos (by omega), ckC_10z L]
    have e : emF C g = up2 C 10 16 g := by
      funext p q
      unfold emF up2
      by_cases p1 : p = 15 ∨ p = 16
      · rw [if_pos p1, if_neg (by omega)]
        rcases p1 with rfl | rfl
        · exact (z15 q).1.symm
        · exact (z15 q).2.symm
      · rw [if_neg p1]
        by_cases p2 : p = 10
        · subst p2
          rw [if_pos rfl, if_pos rfl]
          by_cases q1 : q = 11 ∨ q = 12
          · rw [if_pos q1, if_neg (by omega)]
            rcases q1 with rfl | rfl
            · exact e11.symm
            · exact e12.symm
          · rw [if_neg q1]
        · rw [if_neg p2, if_neg p2]
    rw [e]
    exact wp_ret (FC_sIz h.rf (by omega)) (CM_fixz (o := 10) (j := 16) h rfl rfl hg)
  | succ m ih =>
    intro c f σ C h h7 hc h11 h12 hz hf
    obtain ⟨f, rfl⟩ : ∃ q, f = q + 1 := ⟨f - 1, by omega⟩
    have L := h.lay
    have b15 := cb_15z h.ca c
    have b16 := cb_16z h.ca c
    have l11 : C 10 11 ≤ 2034 := by rw [h11]; exact Nat.le_trans (cn_le _ _ _) (by omega)
    have l12 : C 10 12 ≤ 2034 := by rw [h12]; exact Nat.le_trans (cn_le _ _ _) (by omega)
    unfold L_X5_emptyGroup_2 J_X5_emptyGroup_72
    rw [ltb_def, ckC_10z L, cf_10_7z h.ca, if_l (by omega) (by omega), if_neg (by omega), cf_10_11z h.ca, cf_10_12z h.ca, nI_add]
    show wp (FCz b0) σ (if nI (C 10 11 + C 10 12) ≤ nI 0 then _ else _) _
    rw [if_l (by omega) (by omega)]
    by_cases z : C 10 11 + C 10 12 ≤ 0
    · rw [if_pos z, ckC_10z L]
      have f15 : ∀ k, C 15 k = 0 ∧ C 16 k = 0 := by
        intro k
        by_cases q : k < c ∨ C 10 7 ≤ k
        · exact hz k q
        · have a1 := cn_0 _ _ (h11.symm.trans (show C 10 11 = 0 by omega)) k (by omega) (by omega)
          have a2 := cn_0 _ _ (h12.symm.trans (show C 10 12 = 0 by omega)) k (by omega) (by omega)
          simp at a1 a2
          exact ⟨a1, a2⟩
      have e : emF C g = up2 C 10 16 g := by
        funext p q
        unfold emF up2
        by_cases p1 : p = 15 ∨ p = 16
        · rw [if_pos p1, if_neg (by omega)]
          rcases p1 with rfl | rfl
          · exact (f15 q).1.symm
          · exact (f15 q).2.symm
        · rw [if_neg p1]
          by_cases p2 : p = 10
          · subst p2
            rw [if_pos rfl, if_pos rfl]
            by_cases q1 : q = 11 ∨ q = 12
            · rw [if_pos q1, if_neg (by omega)]
              rcases q1 with rfl | rfl
              · omega
              · omega
            · rw [if_neg q1]
          · rw [if_neg p2, if_neg p2]
      rw [e]
      exact wp_ret (FC_sIz h.rf (by omega)) (CM_fixz (o := 10) (j := 16) h rfl rfl hg)
    · rw [if_neg z]
      have s11 : C 10 11 = C 15 c + cn (fun k => C 15 k != 0) (c + 1) (2034 - (c + 1)) := by
        rw [h11, show 2034 - c = (2034 - (c + 1)) + 1 by omega]
        show (if (C 15 c != 0) = true then 1 else 0) + _ = _
        by_cases q : C 15 c = 0
        · rw [if_neg (by simp [q]), q]
        · rw [if_pos (by simp [q]), show C 15 c = 1 by omega]
      have s12 : C 10 12 = C 16 c + cn (fun k => C 16 k != 0) (c + 1) (2034 - (c + 1)) := by
        rw [h12, show 2034 - c = (2034 - (c + 1)) + 1 by omega]
        show (if (C 16 c != 0) = true then 1 else 0) + _ = _
        by_cases q : C 16 c = 0
        · rw [if_neg (by simp [q]), q]
        · rw [if_pos (by simp [q]), show C 16 c = 1 by omega]
      simp only [ckR_sI, rd_AI]
      rw [osm_p (rfC_10_4z L), ckC_15z L, ckI_n (by omega) (by omega), nI_cl (by omega), cd_15z h.ca, osm_p (rfC_10_5z L), ckC_16z L, ckI_n (by omega) (by omega), nI_sb (show C 15 c ≤ C 10 11 by omega)]
      have h1 : CMz b0 (sI σ (b0 + 10) 11 (nI (C 10 11 - C 15 c))) (up2 C 10 11 (C 10 11 - C 15 c)) D := CM_fixz (o := 10) (j := 11) h rfl rfl (by show _ < 2147483648; omega)
      rw [cf_10_12z h1.ca, cd_16z h1.ca, up2_j (by decide), up2_o (by decide), nI_sb (show C 16 c ≤ C 10 12 by omega), ltb_def]
      have h2 : CMz b0 (sI (sI σ (b0 + 10) 11 (nI (C 10 11 - C 15 c))) (b0 + 10) 12 (nI (C 10 12 - C 16 c))) (up2 (up2 C 10 11 (C 10 11 - C 15 c)) 10 12 (C 10 12 - C 16 c)) D := CM_fixz (o := 10) (j := 12) h1 rfl rfl (by show _ < 2147483648; omega)
      have L2 := h2.lay
      rw [osm_p (rfC_10_4z L2), ckC_15z L2, ckI_n (by omega) (by omega), osm_p (rfC_10_5z L2), ckC_16z L2, ckI_n (by omega) (by omega), ltb_def, ofi]
      have h3 := CM_fixz (o := 15) (j := c) (x := 0) (v := vp_nar .byte 0) h2 rfl vy0 (by decide)
      have h4 := CM_fixz (o := 16) (j := c) (x := 0) (v := vp_nar .byte 0) h3 rfl vy0 (by decide)
      refine wp_from (FC_goodz b0) (FC_2z (FC_sIz h.rf (by omega)) (FC_2z (FC_sIz h1.rf (by omega)) (FC_2z (FC_sIz h2.rf (by omega)) (FC_sIz (o := 16) (j := c) (v := vp_nar .byte 0) h3.rf (by omega))))) ?_
      generalize hX : up2 (up2 (up2 (up2 C 10 11 (C 10 11 - C 15 c)) 10 12 (C 10 12 - C 16 c)) 15 c 0) 16 c 0 = X at h4
      have x10 : ∀ q, q ≠ 11 → q ≠ 12 → X 10 q = C 10 q := by
        intro q q1 q2
        rw [← hX, up2_o (by decide), up2_o (by decide), up2_j q2, up2_j q1]
      have x11 : X 10 11 = C 10 11 - C 15 c := by rw [← hX, up2_o (by decide), up2_o (by decide), up2_j (by decide), up2_s]
      have x12 : X 10 12 = C 10 12 - C 16 c := by rw [← hX, up2_o (by decide), up2_o (by decide), up2_s]
      have x15 : ∀ k, X 15 k = if k = c then 0 else C 15 k := by
        intro k
        rw [← hX, up2_o (by decide)]
        by_cases q : k = c
        · rw [if_pos q, q, up2_s]
        · rw [if_neg q, up2_j q, up2_o (by decide), up2_o (by decide)]
      have x16 : ∀ k, X 16 k = if k = c then 0 else C 16 k := by
        intro k
        rw [← hX]
        by_cases q : k = c
        · rw [if_pos q, q, up2_s]
        · rw [if_neg q, up2_j q, up2_o (by decide), up2_o (by decide), up2_o (by decide)]
      have xo : ∀ p q, p ≠ 10 → p ≠ 15 → p ≠ 16 → X p q = C p q := by
        intro p q p1 p2 p3
        rw [← hX, up2_o p3, up2_o p2, up2_o p1, up2_o p1]
      have := ih (c + 1) f _ X h4 (by rw [x10 7 (by decide) (by decide)]; exact h7) (by rw [x10 7 (by decide) (by decide)]; omega) (by
        rw [x11, cn_congr (q := fun k => C 15 k != 0) _ _ (fun i i1 i2 => by rw [x15, if_neg (by omega)])]
        omega) (by
        rw [x12, cn_congr (q := fun k => C 16 k != 0) _ _ (fun i i1 i2 => by rw [x16, if_neg (by omega)])]
        omega) (fun k hk => by
        rw [x10 7 (by decide) (by decide)] at hk
        rw [x15, x16]
        by_cases q : k = c
        · rw [if_pos q, if_pos q]
          exact ⟨rfl, rfl⟩
        · rw [if_neg q, if_neg q]
          exact hz k (by omega)) (by omega)
      have e : emF X g = emF C g := by
        funext p q
        unfold emF
        by_cases p1 : p = 15 ∨ p = 16
        · rw [if_pos p1, if_pos p1]
        · rw [if_neg p1, if_neg p1]
          by_cases p2 : p = 10
          · rw [if_pos p2, if_pos p2]
            by_cases q1 : q = 11 ∨ q = 12
            · rw [if_pos q1, if_pos q1]
            · rw [if_neg q1, if_neg q1]
              by_cases q2 : q = 16
              · rw [if_pos q2, if_pos q2]
              · rw [if_neg q2, if_neg q2]
                exact x10 q (by omega) (by omega)
          · rw [if_neg p2, if_neg p2]
            exact xo p q p2 (by omega) (by omega)
      rw [e] at this
      exact this
end CZ27
section CZ28
variable {b0 fu : Nat} {σ τ : tM} {C : tS} {D : tD}
theorem emptyGroup_cz (h : CMz b0 σ C D) (hc : ci C) {g : Nat} (hg : g < 2147483648) (hu : 3000 ≤ fu) : wp (FCz b0) σ (m_X5_emptyGroup b0 fu (b0 + 10) (nI g) σ) (fun _ τ => CMz b0 τ (emF C g) D) := by
  obtain ⟨⟨c1, c2, c3⟩, ⟨c4, c5, c6⟩, c7⟩ := hc
  exact wp_grw (FC_goodz b0) (emp2z hg (C 10 7) 0 fu σ C h c2 (by omega) c4 c5 (fun k hk => ⟨(c7 k (by omega)).1, (c7 k (by omega)).2.1⟩) (by omega))
end CZ28
section CZ29
variable {b0 fu : Nat} {σ τ : tM} {C : tS} {D : tD}
theorem fgm2z {P : Unit → tM → Prop} : ∀ m c f σ C, CMz b0 σ C D → ci C → c + m = C 10 7 → (∀ k, k < c → C 17 k = 0) → m < f → (∀ τ, FCz b0 σ τ → CMz b0 τ (clF C) D → wp (FCz b0) τ (J_X5_forgetMarks_28 b0 fu (b0 + 10) τ) P) → wp (FCz b0) σ (L_X5_forgetMarks_2 b0 fu f (b0 + 10) (nI c) σ) P := by
  intro m
  induction m with
  | zero =>
    intro c f σ C h hc hm hz hf hq
    obtain ⟨f, rfl⟩ : ∃ q, f = q + 1 := ⟨f - 1, by omega⟩
    have c2 := hc.1.2.1
    have z17 : ∀ k, C 17 k = 0 := fun k => by
      by_cases q : k < c
      · exact hz k q
      · exact (hc.2.2 k (Or.inr (by omega))).2.2
    have e13 : C 10 13 = 0 := by rw [hc.2.1.2.2]; exact cn_all0 _ _ (fun x _ _ => by simp [z17 x])
    unfold L_X5_forgetMarks_2
    rw [ltb_def, ckC_10z h.lay, cf_10_7z h.ca, if_l (by omega) (by omega), if_pos (by omega)]
    exact hq σ ((FC_goodz b0).1 _) (by rw [clF_id z17 e13]; exact h)
  | succ m ih =>
    intro c f σ C h hc hm hz hf hq
    obtain ⟨f, rfl⟩ : ∃ q, f = q + 1 := ⟨f - 1, by omega⟩
    have c2 := hc.1.2.1
    have bb := ci_b hc
    have b17 := cb_17z h.ca c
    unfold L_X5_forgetMarks_2
    rw [ltb_def, ckC_10z h.lay, cf_10_7z h.ca, if_l (by omega) (by omega), if_neg (by omega), cf_10_13z h.ca]
    show wp (FCz b0) σ (if nI (C 10 13) ≤ nI 0 then _ else _) _
    rw [if_l (by omega) (by omega)]
    by_cases z : C 10 13 ≤ 0
    · have z17 : ∀ k, C 17 k = 0 := fun k => by
        by_cases q : k < 2034
        · have := cn_0 _ _ (hc.2.1.2.2.symm.trans (show C 10 13 = 0 by omega)) k (by omega) (by omega)
          simp at this
          exact this
        · exact (hc.2.2 k (Or.inr (by omega))).2.2
      rw [if_pos z]
      exact hq σ ((FC_goodz b0).1 _) (by rw [clF_id z17 (by omega)]; exact h)
    · rw [if_neg z]
      obtain ⟨u, τ, x1, x2, x3⟩ := clean_cz (fu := fu) h hc (c := c) (by omega)
      rw [x1, cll_some, ltb_def, ofi]
      refine wp_from (FC_goodz b0) x2 ?_
      have k7 : cleC C c 10 7 = C 10 7 := by
        unfold cleC
        split
        · rw [up2_j (by decide), up2_o (by decide)]
        · rfl
      have k17 : ∀ k, cleC C c 17 k = if k = c then 0 else C 17 k := by
        intro k
        unfold cleC
        by_cases q : 0 < c ∧ c < C 10 7 ∧ C 17 c ≠ 0
        · rw [if_pos q, up2_o (by decide)]
          by_cases e : k = c
          · rw [if_pos e, e, up2_s]
          · rw [if_neg e, up2_j e]
        · rw [if_neg q]
          by_cases e : k = c
          · rw [if_pos e, e]
            by_cases e0 : c = 0
            · exact (hc.2.2 c (Or.inl e0)).2.2
            · exact Classical.byContradiction (fun r => q ⟨by omega, by omega, r⟩)
          · rw [if_neg e]
      have kci : ci (cleC C c) := ci_cle hc
      have kclf : clF (cleC C c) = clF C := by
        funext p q
        unfold clF
        by_cases p1 : p = 17
        · rw [if_pos p1, if_pos p1]
        · rw [if_neg p1, if_neg p1]
          by_cases p2 : p = 10 ∧ q = 13
          · rw [if_pos p2, if_pos p2]
          · rw [if_neg p2, if_neg p2]
            unfold cleC
            split
            · by_cases p3 : p = 10
              · subst p3
                rw [up2_j (fun e => p2 ⟨rfl, e⟩), up2_o (by decide)]
              · rw [up2_o p3, up2_o p1]
            · rfl
      refine ih (c + 1) f τ _ x3 kci (by rw [k7]; omega) (fun k hk => ?_) (by omega) (fun τ2 f2 q2 => ?_)
      · rw [k17]
        by_cases e : k = c
        · rw [if_pos e]
        · rw [if_neg e]
          exact hz k (by omega)
      · rw [kclf] at q2
        exact hq τ2 (FC_2z x2 f2) q2
end CZ29
section CZ30
variable {b0 fu : Nat} {σ τ : tM} {C : tS} {D : tD}
theorem forgetMarks_cz (h : CMz b0 σ C D) (hc : ci C) (hu : 3000 ≤ fu) : wp (FCz b0) σ (m_X5_forgetMarks b0 fu (b0 + 10) σ) (fun _ τ => CMz b0 τ (emF (clF C) (C 10 16)) D) := by
  have c2 := hc.1.2.1
  refine wp_grw (FC_goodz b0) (fgm2z (C 10 7) 0 fu σ C h hc (by omega) (fun k hk => by omega) (by omega) (fun τ _ q => ?_))
  have e16 : clF C 10 16 = C 10 16 := rfl
  unfold J_X5_forgetMarks_28
  rw [ckC_10z q.lay, cf_10_16z q.ca, e16]
  refine wp_bind (FC_goodz b0) (emptyGroup_cz (fu := fu) q (ci_cl hc) (cb_10z h.ca 16) hu) ?_
  intro _ ρ r
  exact wp_ret ((FC_goodz b0).1 _) r
end CZ30
section CZ31
variable {b0 fu : Nat} {σ τ : tM} {C : tS} {D : tD}
theorem setNodeWord_cz (h : CMz b0 σ C D) (hc : ci C) {n i V : Nat} (hn : n < 64) (hi : i < 16) (hV : V < 18446744073709551616) : wp (FCz b0) σ (m_X8_setNodeWord b0 fu (b0 + 18) (nI n) (nI i) (lN V) σ) (fun _ τ => CMz b0 τ (snC C n i V) D) := by
  have L := h.lay
  refine wp_grw (FC_goodz b0) ?_
  unfold J_X8_setNodeWord_47
  rw [if_neg (nI_pos (by omega)), if_neg (nI_pos (by omega)), ix16, show (64 : Int32) = nI 64 from rfl, show (16 : Int32) = nI 16 from rfl, if_l (by omega) (by omega), if_neg (by omega), if_l (by omega) (by omega), if_neg (by omega), ckC_18z L, osm_p (rfC_18_1z L), ckC_11z L, ckI_n (by omega) (by omega), nI_cl (by omega)]
  have h1 := CM_fixLz (j := 64 + n * 16 + i) h hV
  have L1 := h1.lay
  rw [osm_p (rfC_18_0z L1), ckC_10z L1, show nI n / (2 : Int32) = nI (n / 2) from nI_dv (d := 2) (by omega) (by omega) (by omega), show (2 : Int32) + nI (n / 2) = nI (2 + n / 2) from nI_add 2 _]
  refine wp_from (FC_goodz b0) (FC_sLz h.rf (by omega)) (wp_bind (FC_goodz b0) (touch_cz (fu := fu) h1 (ci_11 hc) (by omega)) ?_)
  intro _ ρ q
  exact wp_ret ((FC_goodz b0).1 _) q
end CZ31
section CZ32
variable {b0 fu : Nat} {σ τ : tM} {C : tS} {D : tD}
theorem setHeader_cz (h : CMz b0 σ C D) (hc : ci C) {n k na p s : Nat} (hn : n < 64) (hk : k < 256) (hna : na < 256) (hp : p < 256) (hs : s < 2147483648) : wp (FCz b0) σ (m_X8_setHeader b0 fu (b0 + 18) (nI n) (nI k) (nI na) (nI p) (nI s) σ) (fun _ τ => CMz b0 τ (shC C n k na p s) D) := by
  refine wp_grw (FC_goodz b0) ?_
  rw [ckC_18z h.lay, hd_or hk hna hp hs]
  refine wp_bind (FC_goodz b0) (setNodeWord_cz (fu := fu) (i := 0) h hc hn (by omega) (hdV_lt hk hna hp hs)) ?_
  intro _ ρ q
  exact wp_ret ((FC_goodz b0).1 _) q
end CZ32
section CZ33
variable {b0 fu : Nat} {σ τ : tM} {C : tS} {D : tD}
theorem noteChange_cz (h : CMz b0 σ C D) {n v : Nat} (hn : n < 64) (hv : v < 2) : wp (FCz b0) σ (m_X8_noteChange b0 fu (b0 + 18) (nI n) (nI v) σ) (fun _ τ => CMz b0 τ (up2 C 19 n v) D) := by
  have L := h.lay
  refine wp_grw (FC_goodz b0) ?_
  unfold J_X8_noteChange_18
  have e : vp_nar .byte ((nI v).toInt8.toInt32) = nI v := by
    have : v = 0 ∨ v = 1 := by omega
    rcases this with rfl | rfl <;> decide
  rw [if_neg (nI_pos (by omega)), show (64 : Int32) = nI 64 from rfl, if_l (by omega) (by omega), if_neg (by omega), ckC_18z L, osm_p (rfC_18_2z L), ckC_19z L, ckI_n hn (by omega), nI_cl (by omega), e]
  exact wp_ret (FC_sIz h.rf (by omega)) (CM_fixz (o := 19) (j := n) (x := v) h rfl rfl hv)
end CZ33
section CZ34
variable {b0 fu : Nat} {σ τ : tM} {C : tS} {D : tD}
theorem fill_bz {o len : Nat} (ho : isC o 0 = true) (hj : ∀ j, isC o j = true) (hk : ∀ σ C, CMz b0 σ C D → tk σ (b0 + o) = .inr (1, len)) (hl : len < 2147483648) (hd : ∀ j, decC o j 0 = 0) (hb : 0 < bndC o) : ∀ m k f σ C, CMz b0 σ C D → k + m = len → m < f → wp (FCz b0) σ (L_J7_fill_031fb_5 b0 fu f (b0 + o) 0 (nI k) (nI len) σ) (fun _ τ => CMz b0 τ (fl o 0 k m C) D) := by
  have o33 := isC_lt ho
  intro m
  induction m with
  | zero =>
    intro k f σ C h hm hf
    obtain ⟨f, rfl⟩ : ∃ q, f = q + 1 := ⟨f - 1, by omega⟩
    unfold L_J7_fill_031fb_5
    rw [ltb_def, if_l (by omega) (by omega), if_pos (by omega)]
    exact wp_ret ((FC_goodz b0).1 _) h
  | succ m ih =>
    intro k f σ C h hm hf
    obtain ⟨f, rfl⟩ : ∃ q, f = q + 1 := ⟨f - 1, by omega⟩
    have h74 := h.lay.1
    unfold L_J7_fill_031fb_5
    rw [ltb_def, if_l (by omega) (by omega), if_neg (by omega), ckR_p (hk σ C h) ⟨by omega, by omega⟩, ckI_n (by omega) (by omega), nI_cl (by omega), ltb_def, ofi]
    refine wp_from (FC_goodz b0) (FC_sIz (o := o) (j := k) (v := vp_nar .byte 0) h.rf (by omega)) (ih (k + 1) f _ (up2 C o k 0) (CM_fixz (o := o) (j := k) (x := 0) h (hj k) ?_ hb) (by omega) (by omega))
    rw [hd]
    decide
end CZ34
section CZ35
variable {b0 fu : Nat} {σ τ : tM} {C : tS} {D : tD}
theorem forgetChanges_cz (h : CMz b0 σ C D) (hu : 3000 ≤ fu) : wp (FCz b0) σ (m_X8_forgetChanges b0 fu (b0 + 18) σ) (fun _ τ => CMz b0 τ (fl 19 0 0 64 C) D) := by
  have L := h.lay
  refine wp_grw (FC_goodz b0) ?_
  rw [ckC_18z L, osm_p (rfC_18_2z L)]
  have : wp (FCz b0) σ (m_J7_fill_031fb b0 fu (b0 + 19) 0 σ) (fun _ τ => CMz b0 τ (fl 19 0 0 64 C) D) := by
    refine wp_grw (FC_goodz b0) ?_
    rw [ckC_19z L, ltb_def]
    exact fill_bz (o := 19) (len := 64) rfl (fun _ => rfl) (fun σ C q => rkC19z q.lay) (by omega) (fun _ => rfl) (by decide) 64 0 fu σ C h (by omega) (by omega)
  refine wp_bind (FC_goodz b0) this ?_
  intro _ ρ q
  exact wp_ret ((FC_goodz b0).1 _) q
end CZ35
section CZ36
variable {b0 fu : Nat} {σ τ : tM} {C : tS} {D : tD}
theorem setUp_cz (h : CMz b0 σ C D) (hc : ci C) {n k p : Nat} (hn : n < 64) (hk : k < 256) (hp : p < 256) : wp (FCz b0) σ (m_X8_setUp b0 fu (b0 + 18) (nI n) (nI k) (nI p) σ) (fun _ τ => CMz b0 τ (suC C n k p) D) := by
  refine wp_grw (FC_goodz b0) ?_
  unfold J_X8_setUp_10 J_X8_setUp_25 J_X8_setUp_35 suC
  have fin : ∀ na q, na < 256 → q < 256 → wp (FCz b0) σ (ckO b0 σ (b0 + 18) 8 (cll (m_X8_setHeader b0 fu (b0 + 18) (nI n) (nI k) (nI na) (nI q) 0 σ) (fun v6 ρ7 => ckO b0 ρ7 (b0 + 18) 8 (cll (m_X8_noteChange b0 fu (b0 + 18) (nI n) 0 ρ7) (fun v11 ρ12 => some ((), ρ12)))))) (fun _ τ => CMz b0 τ (up2 (shC C n k na q 0) 19 n 0) D) := by
    intro na q h1 h2
    rw [ckC_18z h.lay]
    refine wp_bind (FC_goodz b0) (setHeader_cz (fu := fu) (s := 0) h hc hn hk h1 h2 (by omega)) ?_
    intro _ ρ r
    rw [ckC_18z r.lay]
    refine wp_bind (FC_goodz b0) (noteChange_cz (fu := fu) (v := 0) r hn (by omega)) ?_
    intro _ ρ2 r2
    exact wp_ret ((FC_goodz b0).1 _) r2
  show wp (FCz b0) σ (if nI k = nI 2 then _ else _) _
  rw [if_e (by omega) (by omega)]
  by_cases c : k = 2
  · rw [if_pos c, if_neg (show ¬ (1 : Int32) = 0 by decide), if_neg (show ¬ (1 : Int32) = 0 by decide), if_pos c, if_pos c]
    exact fin 0 p (by omega) hp
  · rw [if_neg c, if_pos (show (0 : Int32) = 0 from rfl), if_pos (show (0 : Int32) = 0 from rfl), if_neg c, if_neg c]
    exact fin 1 0 (by omega) (by omega)
end CZ36
section CZ37
variable {b0 fu : Nat} {σ τ : tM} {C A : tS} {D : tD}
theorem useUp_cz (h : CMz b0 σ C D) : wp (FCz b0) σ (m_X6_useUp b0 fu (b0 + 26) σ) (fun _ τ => CMz b0 τ (up2 C 26 1 0) D) := by
  refine wp_grw (FC_goodz b0) ?_
  rw [ckC_26z h.lay]
  exact wp_ret (FC_sIz h.rf (by omega)) (CM_fixz (o := 26) (j := 1) (x := 0) h rfl rfl (by decide))
end CZ37
section CZ38
variable {Φ : tPh} {b0 fu : Nat} {σ τ : tM} {bi sp : Nat → Nat} {w : Nat → Nat × Nat} {C C' X : tS} {D D' D'' : tD} {A B : tS} {J J' : tJ} {K n m k r b id wh e o un fr to : Nat}
theorem restart_cz (h : CMz b0 σ C D) (hc : ci C) (ht : to < 1000000) (hu : 3000 ≤ fu) : wp (FCz b0) σ (m_X1_restart b0 fu (b0 + 20) (nI to) σ) (fun _ τ => CMz b0 τ (rsC C to) D) := by
  have b11 := cb_20z h.ca 11
  have hx : to < bndC 20 := by
    show to < 2147483648
    omega
  have k1 := CM_fixz (o := 20) (j := 12) (x := to) (v := nI to) h rfl rfl hx
  have k2 := CM_fixz (o := 20) (j := 13) (x := to) (v := nI to) k1 rfl rfl hx
  have k3 := CM_fixz (o := 20) (j := 14) (x := to) (v := nI to) k2 rfl rfl hx
  have k4 := CM_fixz (o := 20) (j := 15) (x := to) (v := nI to) k3 rfl rfl hx
  have k5 := CM_fixz (o := 20) (j := 16) (x := to) (v := nI to) k4 rfl rfl hx
  have k6 := CM_fixz (o := 20) (j := 9) (x := 0) (v := 0) k5 rfl rfl (by decide)
  have e11 := cf_20_11z k6.ca
  rw [up2_j (by decide), up2_j (by decide), up2_j (by decide), up2_j (by decide), up2_j (by decide), up2_j (by decide)] at e11
  have k7 := CM_fixz (o := 20) (j := 10) (x := C 20 11) (v := nI (C 20 11)) k6 rfl rfl b11
  have f7 := FC_2z (FC_2z (FC_2z (FC_2z (FC_2z (FC_2z (FC_sIz (o := 20) (j := 12) (v := nI to) h.rf (by omega)) (FC_sIz (o := 20) (j := 13) (v := nI to) k1.rf (by omega))) (FC_sIz (o := 20) (j := 14) (v := nI to) k2.rf (by omega))) (FC_sIz (o := 20) (j := 15) (v := nI to) k3.rf (by omega))) (FC_sIz (o := 20) (j := 16) (v := nI to) k4.rf (by omega))) (FC_sIz (o := 20) (j := 9) (v := 0) k5.rf (by omega))) (FC_sIz (o := 20) (j := 10) (v := nI (C 20 11)) k6.rf (by omega))
  refine wp_grw (FC_goodz b0) ?_
  unfold rsC
  rw [ckC_20z h.lay, e11]
  generalize sI (sI (sI (sI (sI (sI (sI σ (b0 + 20) 12 (nI to)) (b0 + 20) 13 (nI to)) (b0 + 20) 14 (nI to)) (b0 + 20) 15 (nI to)) (b0 + 20) 16 (nI to)) (b0 + 20) 9 0) (b0 + 20) 10 (nI (C 20 11)) = ρ at k7 f7
  have c7 : ci (up2 (up2 (up2 (up2 (up2 (up2 (up2 C 20 12 to) 20 13 to) 20 14 to) 20 15 to) 20 16 to) 20 9 0) 20 10 (C 20 11)) := by
    refine ci_cong hc (fun q _ => ?_) ?_ ?_ ?_ <;> rw [up2_rown (by decide), up2_rown (by decide), up2_rown (by decide), up2_rown (by decide), up2_rown (by decide), up2_rown (by decide), up2_rown (by decide)]
  generalize up2 (up2 (up2 (up2 (up2 (up2 (up2 C 20 12 to) 20 13 to) 20 14 to) 20 15 to) 20 16 to) 20 9 0) 20 10 (C 20 11) = C7 at k7 c7
  rw [osm_p (rfC_20_1z k7.lay), ckC_10z k7.lay, show nI to + 1 = nI (to + 1) from nI_add to 1]
  refine wp_from (FC_goodz b0) f7 (wp_bind (FC_goodz b0) (emptyGroup_cz (fu := fu) k7 c7 (by omega) hu) ?_)
  intro _ ρ2 q
  rw [ckC_20z q.lay, osm_p (rfC_20_2z q.lay), ckC_18z q.lay]
  refine wp_bind (FC_goodz b0) (forgetChanges_cz (fu := fu) q hu) ?_
  intro _ ρ3 q2
  exact wp_ret ((FC_goodz b0).1 _) q2
end CZ38
section CZ39
variable {b0 fu : Nat} {σ τ : tM} {bi : Nat → Nat} {w : Nat → Nat × Nat} {C Cs C0 A : tS} {D : tD} {G G' : Nat → Prop} {n s r x k : Nat}
theorem rdM23z (hc : ci C0) : ∀ m c f σ C, CMz b0 σ C D → rdP C0 c C → 34 ≤ c → c + m = C0 10 7 → m < f → wp (FCz b0) σ (L_X5_readMap_23 b0 fu f (b0 + 10) (nI c) σ) (fun _ τ => ∃ C', CMz b0 τ C' D ∧ rdP C0 (C0 10 7) C') := by
  have c7 := hc.1
  intro m
  induction m with
  | zero =>
    intro c f σ C h l h34 hk hf
    obtain ⟨f, rfl⟩ : ∃ g, f = g + 1 := ⟨f - 1, by omega⟩
    have e : c = C0 10 7 := by omega
    unfold L_X5_readMap_23
    rw [ltb_def, ckC_10z h.lay, cf_10_7z h.ca, l.2.1 7 (by decide), if_l (by omega) (by omega), if_pos (by omega)]
    rw [e] at l
    exact wp_ret ((FC_goodz b0).1 _) ⟨C, h, l⟩
  | succ m ih =>
    intro c f σ C h l h34 hk hf
    obtain ⟨f, rfl⟩ : ∃ g, f = g + 1 := ⟨f - 1, by omega⟩
    have L := h.lay
    obtain ⟨l1, l2, l3, l4⟩ := l
    have cci : ci C := ci_cong hc (fun q _ => l2 q (by omega)) (l1 15 (by decide) (by decide)) (l1 16 (by decide) (by decide)) (l1 17 (by decide) (by decide))
    have e11 : C 11 = C0 11 := l1 11 (by decide) (by decide)
    have bw := cb_11z h.ca (32 + (c - 34) / 64)
    have wo : woC C 1 ((c - 34) / 64) = C0 11 (32 + (c - 34) / 64) := by
      unfold woC
      rw [if_pos (by rw [l2 7 (by decide)]; omega), e11]
    rw [e11] at bw
    have i6 : nI (c - 34) >>> ((6 : Int32) &&& 31) = nI ((c - 34) / 64) := pk_shrN (by omega) _ 6 (by decide)
    have i63 : nI (c - 34) &&& (63 : Int32) = nI ((c - 34) % 64) := pk_andN (by omega) 6 (by decide)
    have cnb : C 10 9 ≤ c - 34 := by
      rw [l4]
      exact cn_le _ _ _
    have fin : ∀ s, s = fbM C0 c → CMz b0 (sI (sI σ (b0 + 12) c (nI s - 1)) (b0 + 10) 9 (nI (C 10 9) + nI s)) (up2 (up2 C 12 c s) 10 9 (C 10 9 + s)) D → FCz b0 σ (sI (sI σ (b0 + 12) c (nI s - 1)) (b0 + 10) 9 (nI (C 10 9) + nI s)) → wp (FCz b0) σ (L_X5_readMap_23 b0 fu f (b0 + 10) (nI (c + 1)) (sI (sI σ (b0 + 12) c (nI s - 1)) (b0 + 10) 9 (nI (C 10 9) + nI s))) (fun _ τ => ∃ C', CMz b0 τ C' D ∧ rdP C0 (C0 10 7) C') := by
      intro s es hm hF
      refine wp_from (FC_goodz b0) hF (ih (c + 1) f _ _ hm ⟨fun p p1 p2 => ?_, fun q hq => ?_, fun x => ?_, ?_⟩ (by omega) (by omega) (by omega))
      · rw [up2_rown p2, up2_rown p1, l1 p p1 p2]
      · rw [up2_j hq, up2_o (by decide), l2 q hq]
      · rw [up2_o (by decide)]
        by_cases cx : x = c
        · rw [cx, up2_s, if_pos ⟨h34, by omega⟩, es]
        · rw [up2_j cx, l3 x]
          by_cases d : 34 ≤ x ∧ x < c
          · rw [if_pos d, if_pos ⟨d.1, by omega⟩]
          · rw [if_neg d, if_neg (by omega)]
      · rw [up2_s, l4, show c + 1 - 34 = c - 34 + 1 by omega, cn_snoc, show 34 + (c - 34) = c by omega, es]
        unfold fbM
        split <;> simp
    have bd9 : C 10 9 + 1 < 2147483648 := by omega
    unfold L_X5_readMap_23
    rw [ltb_def, ckC_10z L, cf_10_7z h.ca, l2 7 (by decide), if_l (by omega) (by omega), if_neg (by omega), ltb_def, show nI c - (34 : Int32) = nI (c - 34) from nI_sb (a := c) (b := 34) (by omega), i6, i63, show (1 : Int32) = nI 1 from rfl, word_cz h.ca cci (by omega) (by omega), cll_some, wo, wb_bit bw (by omega), lgz (by have := Nat.mod_lt (C0 11 (32 + (c - 34) / 64) / 2 ^ ((c - 34) % 64)) (show 0 < 2 by decide); omega)]
    by_cases cb : C0 11 (32 + (c - 34) / 64) / 2 ^ ((c - 34) % 64) % 2 = 0
    · rw [if_pos cb]
      have h1 : CMz b0 (sI σ (b0 + 12) c (nI 1 - 1)) (up2 C 12 c 1) D := CM_fixz (o := 12) h rfl rfl (by decide)
      have h2 : CMz b0 (sI (sI σ (b0 + 12) c (nI 1 - 1)) (b0 + 10) 9 (nI (C 10 9) + nI 1)) (up2 (up2 C 12 c 1) 10 9 (C 10 9 + 1)) D := CM_fixz (o := 10) h1 rfl (nI_add _ _) bd9
      unfold J_X5_readMap_62 J_X5_readMap_77 J_X5_readMap_92
      have z0 : (0 : Int32) = nI 1 - 1 := by decide
      rw [ckC_10z L, osm_p (rfC_10_1z L), if_pos rfl, ckC_12z L, ckI_n (by omega) (by omega), nI_cl (by omega)]
      rw [show sI σ (b0 + 12) c (0 : Int32) = sI σ (b0 + 12) c (nI 1 - 1) from rfl, ckC_10z h1.lay, if_pos rfl, ckC_10z h1.lay, ltb_def, ofi, cf_10_9z h1.ca, up2_o (by decide)]
      exact fin 1 (by unfold fbM; rw [if_pos cb]) h2 (FC_2z (FC_sIz h.rf (by omega)) (FC_sIz h1.rf (by omega)))
    · rw [if_neg cb]
      have h1 : CMz b0 (sI σ (b0 + 12) c (nI 0 - 1)) (up2 C 12 c 0) D := CM_fixz (o := 12) h rfl rfl (by decide)
      have h2 : CMz b0 (sI (sI σ (b0 + 12) c (nI 0 - 1)) (b0 + 10) 9 (nI (C 10 9) + nI 0)) (up2 (up2 C 12 c 0) 10 9 (C 10 9 + 0)) D := CM_fixz (o := 10) h1 rfl (nI_add _ _) (by show _ < 2147483648; omega)
      unfold J_X5_readMap_62 J_X5_readMap_77 J_X5_readMap_92
      rw [ckC_10z L, osm_p (rfC_10_1z L), if_neg (show ¬ nI 1 = (0 : Int32) by decide), ckC_12z L, ckI_n (by omega) (by omega), nI_cl (by omega)]
      rw [show sI σ (b0 + 12) c (-1 : Int32) = sI σ (b0 + 12) c (nI 0 - 1) from rfl, ckC_10z h1.lay, if_neg (show ¬ nI 1 = (0 : Int32) by decide), ckC_10z h1.lay, ltb_def, ofi, cf_10_9z h1.ca, up2_o (by decide)]
      exact fin 0 (by unfold fbM; rw [if_neg cb]) h2 (FC_2z (FC_sIz h.rf (by omega)) (FC_sIz h1.rf (by omega)))
end CZ39
section CZ40
variable {b0 fu : Nat} {σ τ : tM} {bi : Nat → Nat} {w : Nat → Nat × Nat} {C Cs C0 A : tS} {D : tD} {G G' : Nat → Prop} {n s r x k : Nat}
theorem readMap_cz (h : CMz b0 σ C D) (hc : ci C) (hu : 3000 ≤ fu) : wp (FCz b0) σ (m_X5_readMap b0 fu (b0 + 10) σ) (fun _ τ => ∃ C', CMz b0 τ C' D ∧ rdP (rd0 C) (C 10 7) C') := by
  have c7 := hc.1
  refine wp_grw (FC_goodz b0) ?_
  rw [ckC_10z h.lay]
  refine wp_bind (FC_goodz b0) (forgetMarks_cz (fu := fu) h hc hu) ?_
  intro _ ρ q
  have q1 : CMz b0 (sI ρ (b0 + 10) 9 0) (up2 (emF (clF C) (C 10 16)) 10 9 0) D := CM_fixz (o := 10) q rfl rfl (by decide)
  have q2 : CMz b0 (sI (sI ρ (b0 + 10) 9 0) (b0 + 10) 10 0) (up2 (up2 (emF (clF C) (C 10 16)) 10 9 0) 10 10 0) D := CM_fixz (o := 10) q1 rfl rfl (by decide)
  have q3 : CMz b0 (sI (sI (sI ρ (b0 + 10) 9 0) (b0 + 10) 10 0) (b0 + 10) 14 34) (rd0 C) D := CM_fixz (o := 10) q2 rfl (show (34 : Int32) = nI 34 from rfl) (by decide)
  rw [ckC_10z q.lay]
  have e7 : rd0 C 10 7 = C 10 7 := by
    rw [rd0_f.2.1]
    rfl
  have hF : FCz b0 ρ (sI (sI (sI ρ (b0 + 10) 9 0) (b0 + 10) 10 0) (b0 + 10) 14 34) := FC_2z (FC_sIz q.rf (by omega)) (FC_2z (FC_sIz q1.rf (by omega)) (FC_sIz q2.rf (by omega)))
  refine wp_from (FC_goodz b0) hF ?_
  have := rdM23z (b0 := b0) (fu := fu) (D := D) (ci_rd hc) (C 10 7 - 34) 34 fu _ _ q3 ⟨fun _ _ _ => rfl, fun _ _ => rfl, fun x => by rw [if_neg (by omega)], by rw [rd0_f.2.1]; rfl⟩ (by omega) (by rw [e7]; omega) (by omega)
  rw [e7] at this
  exact this
end CZ40
section CZ41
variable {Φ : tPh} {b0 fu : Nat} {σ τ : tM} {bi sp : Nat → Nat} {w : Nat → Nat × Nat} {C C' C1 X : tS} {D D' D1 D2 : tD} {A B : tS} {J J' : tJ} {K n m k r b t fr to : Nat} {s : Nat → Nat}
theorem fill_hz (h : CMz b0 σ C D) (hu : 3000 ≤ fu) : wp (FCz b0) σ (m_J7_fill_53178 b0 fu (b0 + 32) (-1) σ) (fun _ τ => CMz b0 τ (fl 32 0 0 16 C) D) := by
  have lp : ∀ m k f σ C, CMz b0 σ C D → k + m = 16 → m < f → wp (FCz b0) σ (L_J7_fill_53178_5 b0 fu f (b0 + 32) (-1) (nI k) (nI 16) σ) (fun _ τ => CMz b0 τ (fl 32 0 k m C) D) := by
    intro m
    induction m with
    | zero =>
      intro k f σ C h hk hf
      obtain ⟨f, rfl⟩ : ∃ g, f = g + 1 := ⟨f - 1, by omega⟩
      unfold L_J7_fill_53178_5
      rw [ltb_def, if_l (by omega) (by omega), if_pos (by omega)]
      exact wp_ret ((FC_goodz b0).1 _) h
    | succ m ih =>
      intro k f σ C h hk hf
      obtain ⟨f, rfl⟩ : ∃ g, f = g + 1 := ⟨f - 1, by omega⟩
      unfold L_J7_fill_53178_5
      rw [ltb_def, if_l (by omega) (by omega), if_neg (by omega), ckC_32z h.lay, ckI_n (by omega) (by omega), ltb_def, ofi, nI_cl (by omega)]
      have h1 : CMz b0 (sI σ (b0 + 32) k (-1)) (up2 C 32 k 0) D := CM_fixz (o := 32) h rfl (show (-1 : Int32) = nI 0 - 1 by decide) (by decide)
      exact wp_from (FC_goodz b0) (FC_sIz h.rf (by omega)) (ih (k + 1) f _ _ h1 (by omega) (by omega))
  refine wp_grw (FC_goodz b0) ?_
  rw [ckC_32z h.lay, ltb_def]
  exact lp 16 0 fu σ C h (by omega) (by omega)
end CZ41
section CZ42
variable {b0 fu : Nat} {σ τ ρ : tM} {C C' X : tS} {D D' : tD} {l r m k c q : Nat}
theorem dkR2z {n : Nat} (hn : n ≤ 6130) (h8 : C 1 8 ≤ 6130) : ∀ m k f σ, CMz b0 σ (zD C k) D → k + m = C 1 8 → m < f → wp (FCz b0) σ (L_X0_reset_2 b0 fu f (b0 + 1) (nI n) (nI k) σ) (fun _ τ => CMz b0 τ (rsD C (C 1 8) n) D) := by
  intro m
  induction m with
  | zero =>
    intro k f σ h hk hf
    obtain ⟨f, rfl⟩ : ∃ g, f = g + 1 := ⟨f - 1, by omega⟩
    have L := h.lay
    have ek : k = C 1 8 := by omega
    subst ek
    unfold L_X0_reset_2
    rw [ltb_def, ckC_1z L, cf_1_8z h.ca, zD_1, if_l (by omega) (by omega), if_pos (Nat.le_refl _), ltb_def]
    have e1 : (if (0 : Int32) < (if (6130 : Int32) < nI n then 6130 else nI n) then (if (6130 : Int32) < nI n then 6130 else nI n) else (0 : Int32)) = nI n := by
      rw [show (6130 : Int32) = nI 6130 from rfl, if_neg (show ¬ nI 6130 < nI n from fun q => by have := (nI_ltP (a := 6130) (b := n) (by omega) (by omega)).mp q; omega)]
      by_cases c : n = 0
      · subst c
        rfl
      · rw [if_pos (show (0 : Int32) < nI n from (nI_ltP (a := 0) (b := n) (by omega) (by omega)).mpr (by omega))]
    rw [e1]
    have k1 := CM_fixz (o := 1) (j := 8) (x := n) (v := nI n) h rfl rfl (show n < 2147483648 by omega)
    have k2 := CM_fixz (o := 1) (j := 9) (x := 0) (v := 0) k1 rfl rfl (by decide)
    have k3 := CM_fixz (o := 1) (j := 10) (x := 0) (v := 0) k2 rfl rfl (by decide)
    have k4 := CM_fixz (o := 1) (j := 11) (x := 0) (v := 0) k3 rfl rfl (by decide)
    have k5 := CM_fixz (o := 1) (j := 12) (x := 0) (v := 0) k4 rfl rfl (by decide)
    have k6 := CM_fixz (o := 1) (j := 13) (x := 0) (v := -1) k5 rfl (show (-1 : Int32) = nI 0 - 1 by decide) (by decide)
    have k7 := CM_fixz (o := 1) (j := 14) (x := 1) (v := 1) k6 rfl rfl (by decide)
    exact wp_ret (FC_2z (FC_2z (FC_2z (FC_2z (FC_2z (FC_2z (FC_sIz (o := 1) (j := 8) (v := nI n) h.rf (by omega)) (FC_sIz (o := 1) (j := 9) (v := 0) k1.rf (by omega))) (FC_sIz (o := 1) (j := 10) (v := 0) k2.rf (by omega))) (FC_sIz (o := 1) (j := 11) (v := 0) k3.rf (by omega))) (FC_sIz (o := 1) (j := 12) (v := 0) k4.rf (by omega))) (FC_sIz (o := 1) (j := 13) (v := -1) k5.rf (by omega))) (FC_sIz (o := 1) (j := 14) (v := 1) k6.rf (by omega))) k7
  | succ m ih =>
    intro k f σ h hk hf
    obtain ⟨f, rfl⟩ : ∃ g, f = g + 1 := ⟨f - 1, by omega⟩
    have L := h.lay
    unfold L_X0_reset_2
    have k1 := CM_fixz (o := 2) (j := k) (x := 0) (v := 0) h rfl rfl (by decide)
    have k2 := CM_fixz (o := 4) (j := k) (x := 0) (v := 0) k1 rfl rfl (by decide)
    have k3 := CM_fixz (o := 5) (j := k) (x := 0) (v := 0) k2 rfl rfl (by decide)
    rw [zD_s] at k3
    rw [ltb_def, ckC_1z L, cf_1_8z h.ca, zD_1, if_l (by omega) (by omega), if_neg (by omega), osm_p (rfC_1_0z L), ckC_2z L, ckI_n (by omega) (by omega), nI_cl (by omega), osm_p (rfC_1_2z k1.lay), ckC_4z k1.lay, ckI_n (by omega) (by omega), osm_p (rfC_1_3z k2.lay), ckC_5z k2.lay, ckI_n (by omega) (by omega), ltb_def, ofi]
    exact wp_from (FC_goodz b0) (FC_2z (FC_2z (FC_sIz (o := 2) (j := k) (v := 0) h.rf (by omega)) (FC_sIz (o := 4) (j := k) (v := 0) k1.rf (by omega))) (FC_sIz (o := 5) (j := k) (v := 0) k2.rf (by omega))) (ih (k + 1) f _ k3 (by omega) (by omega))
end CZ42
section CZ43
variable {b0 fu : Nat} {σ τ ρ : tM} {C C' X : tS} {D D' : tD} {l r m k c q : Nat}
theorem dkReset_cz {n : Nat} (hn : n ≤ 6130) (h8 : C 1 8 ≤ 6130) (hu : 7000 ≤ fu) (h : CMz b0 σ C D) : wp (FCz b0) σ (m_X0_reset b0 fu (b0 + 1) (nI n) σ) (fun _ τ => CMz b0 τ (rsD C (C 1 8) n) D) := by
  have e : zD C 0 = C := by
    funext p q
    unfold zD
    rw [if_neg (by omega)]
  refine wp_grw (FC_goodz b0) ?_
  exact dkR2z hn h8 (C 1 8) 0 fu σ (by rw [e]; exact h) (by omega) (by omega)
end CZ43
section CZ44
variable {b0 fu : Nat} {σ τ ρ : tM} {C C' X : tS} {D D' : tD} {l r m k c q : Nat}
theorem spR34z (l1 : l ≤ 4096) (r2 : r ≤ 2000) (h10 : C 10 11 = 0 ∧ C 10 12 = 0 ∧ C 10 13 = 0) (h15 : ∀ c, C 15 c = 0 ∧ C 16 c = 0 ∧ C 17 c = 0) (hu : 3000 ≤ fu) : ∀ m c f σ, CMz b0 σ (zL (Y0 C l r) c) D → c + m = 34 → 1 ≤ c → m < f → wp (FCz b0) σ (L_X5_reset_34 b0 fu f (b0 + 10) (nI c) σ) (fun _ τ => ∃ C', CMz b0 τ C' D ∧ S2p l r C C') := by
  intro m
  induction m with
  | zero =>
    intro c f σ h hk h1 hf
    obtain ⟨f, rfl⟩ : ∃ g, f = g + 1 := ⟨f - 1, by omega⟩
    have e : c = 34 := by omega
    subst e
    have L := h.lay
    unfold L_X5_reset_34
    rw [ltb_def, show (34 : Int32) = nI 34 from rfl, if_l (by omega) (by omega), if_pos (by omega), ckC_10z L]
    have zo : ∀ p, p ≠ 11 → zL (Y0 C l r) 34 p = Y0 C l r p := fun p hp => by
      funext q
      unfold zL
      rw [if_neg (fun e => hp e.1)]
    have yo : ∀ p, p ≠ 10 → Y0 C l r p = C p := fun p hp => by
      unfold Y0
      rw [up2_rown hp, up2_rown hp, up2_rown hp]
    have y10 : ∀ q, zL (Y0 C l r) 34 10 q = if q = 15 then 0 else if q = 8 then l else if q = 7 then 34 + r else C 10 q := fun q => by
      rw [zo 10 (by decide)]
      unfold Y0
      rw [up2_if, up2_if, up2_if]
      by_cases c1 : q = 15
      · rw [if_pos ⟨rfl, c1⟩, if_pos c1]
      · rw [if_neg (fun e => c1 e.2), if_neg c1]
        by_cases c2 : q = 8
        · rw [if_pos ⟨rfl, c2⟩, if_pos c2]
        · rw [if_neg (fun e => c2 e.2), if_neg c2]
          by_cases c3 : q = 7
          · rw [if_pos ⟨rfl, c3⟩, if_pos c3]
          · rw [if_neg (fun e => c3 e.2), if_neg c3]
    have e7 : zL (Y0 C l r) 34 10 7 = 34 + r := by rw [y10, if_neg (by decide), if_neg (by decide), if_pos rfl]
    have e8 : zL (Y0 C l r) 34 10 8 = l := by rw [y10, if_neg (by decide), if_pos rfl]
    have e15 : zL (Y0 C l r) 34 10 15 = 0 := by rw [y10, if_pos rfl]
    have m15 : ∀ c, zL (Y0 C l r) 34 15 c = 0 ∧ zL (Y0 C l r) 34 16 c = 0 ∧ zL (Y0 C l r) 34 17 c = 0 := fun c => by
      rw [zo 15 (by decide), zo 16 (by decide), zo 17 (by decide), yo 15 (by decide), yo 16 (by decide), yo 17 (by decide)]
      exact h15 c
    have hc : ci (zL (Y0 C l r) 34) := ci_zero ⟨by omega, by omega, by omega⟩ ⟨by rw [y10, if_neg (by decide), if_neg (by decide), if_neg (by decide)]; exact h10.1, by rw [y10, if_neg (by decide), if_neg (by decide), if_neg (by decide)]; exact h10.2.1, by rw [y10, if_neg (by decide), if_neg (by decide), if_neg (by decide)]; exact h10.2.2⟩ m15
    have w11 : ∀ q, q < 1088 → zL (Y0 C l r) 34 11 q = if q < 32 then C 11 q else 0 := fun q hq => by
      unfold zL
      by_cases c : q < 32
      · rw [if_neg (by omega), if_pos c, yo 11 (by decide)]
      · rw [if_pos ⟨rfl, by omega, by omega⟩, if_neg c]
    have w20 : ∀ p, p < 10 ∨ 18 ≤ p → zL (Y0 C l r) 34 p = C p := fun p hp => by rw [zo p (by omega), yo p (by omega)]
    refine wp_bind (FC_goodz b0) (readMap_cz (fu := fu) h hc hu) ?_
    rintro _ ρ ⟨C', q1, q2⟩
    generalize zL (Y0 C l r) 34 = Z at *
    have d0 : (∀ p, p ≠ 10 → ¬ (15 ≤ p ∧ p ≤ 17) → rd0 Z p = Z p) ∧ (∀ c, rd0 Z 15 c = 0 ∧ rd0 Z 16 c = 0 ∧ rd0 Z 17 c = 0) ∧ (∀ q, rd0 Z 10 q = if q = 14 then 34 else if 9 ≤ q ∧ q ≤ 13 then 0 else Z 10 q) := by
      unfold rd0
      refine ⟨fun p hp hq => ?_, fun c => ?_, fun q => ?_⟩
      · funext j
        rw [up2_o hp, up2_o hp, up2_o hp]
        unfold emF clF
        rw [if_neg (by omega), if_neg hp, if_neg (by omega), if_neg (by omega)]
      · rw [up2_o (by decide), up2_o (by decide), up2_o (by decide), up2_o (by decide), up2_o (by decide), up2_o (by decide), up2_o (by decide), up2_o (by decide), up2_o (by decide)]
        unfold emF clF
        exact ⟨if_pos (Or.inl rfl), if_pos (Or.inr rfl), by rw [if_neg (by decide), if_neg (by decide), if_pos rfl]⟩
      · rw [up2_if, up2_if, up2_if]
        by_cases c1 : q = 14
        · rw [if_pos ⟨rfl, c1⟩, if_pos c1]
        · rw [if_neg (fun e => c1 e.2), if_neg c1]
          by_cases c2 : q = 10
          · rw [if_pos ⟨rfl, c2⟩, if_pos (by omega)]
          · rw [if_neg (fun e => c2 e.2)]
            by_cases c3 : q = 9
            · rw [if_pos ⟨rfl, c3⟩, if_pos (by omega)]
            · rw [if_neg (fun e => c3 e.2)]
              unfold emF clF
              rw [if_neg (by decide), if_pos rfl]
              by_cases c4 : q = 11 ∨ q = 12
              · rw [if_pos c4, if_pos (by omega)]
              · rw [if_neg c4]
                by_cases c5 : q = 16
                · rw [if_pos c5, if_neg (by omega), c5]
                · rw [if_neg c5, if_neg (by decide)]
                  by_cases c6 : q = 13
                  · rw [if_pos ⟨rfl, c6⟩, if_pos (by omega)]
                  · rw [if_neg (fun e => c6 e.2), if_neg (by omega)]
    obtain ⟨d1, d2, d3⟩ := d0
    obtain ⟨f1, f2, f3, f4⟩ := q2
    rw [e7] at f3 f4
    have c12 : ∀ x, 34 ≤ x → x < 34 + r → C' 12 x = fbM (rd0 Z) x := fun x h1 h2 => by rw [f3, if_pos ⟨h1, h2⟩]
    have fb : ∀ x, 34 ≤ x → x < 34 + r → fbM (rd0 Z) x = 1 := fun x h1 h2 => by
      have e0 : rd0 Z 11 (32 + (x - 34) / 64) = 0 := by rw [d1 11 (by decide) (by omega), w11 _ (by omega), if_neg (by omega)]
      unfold fbM
      rw [e0, Nat.zero_div]
      rfl
    refine wp_ret ((FC_goodz b0).1 _) ⟨C', q1, fun p hp => ?_, ⟨?_, ?_, ?_, ?_, ?_, ?_, ?_, ?_⟩, fun q hq => ?_, fun x h1 h2 => by rw [c12 x h1 h2, fb x h1 h2], fun c => ?_, ?_⟩
    · rw [f1 p (by omega) (by omega), d1 p (by omega) (by omega), w20 p hp]
    · rw [f2 7 (by decide), d3, if_neg (by decide), if_neg (by omega), e7]
    · rw [f2 8 (by decide), d3, if_neg (by decide), if_neg (by omega), e8]
    · rw [f2 15 (by decide), d3, if_neg (by decide), if_neg (by omega), e15]
    · rw [f2 14 (by decide), d3, if_pos rfl]
    · rw [f2 10 (by decide), d3, if_neg (by decide), if_pos (by omega)]
    · rw [f2 11 (by decide), d3, if_neg (by decide), if_pos (by omega)]
    · rw [f2 12 (by decide), d3, if_neg (by decide), if_pos (by omega)]
    · rw [f2 13 (by decide), d3, if_neg (by decide), if_pos (by omega)]
    · rw [f1 11 (by decide) (by decide), d1 11 (by decide) (by omega), w11 q hq]
    · rw [f1 15 (by decide) (by decide), f1 16 (by decide) (by decide), f1 17 (by decide) (by decide)]
      exact d2 c
    · rw [f4, show 34 + r - 34 = r by omega]
      exact cn_congr r 34 (fun x h1 h2 => by rw [c12 x h1 (by omega)])
  | succ m ih =>
    intro c f σ h hk h1 hf
    obtain ⟨f, rfl⟩ : ∃ g, f = g + 1 := ⟨f - 1, by omega⟩
    have L := h.lay
    unfold L_X5_reset_34
    rw [ltb_def, show (34 : Int32) = nI 34 from rfl, if_l (by omega) (by omega), if_neg (by omega), ckC_10z L]
    refine wp_bind (FC_goodz b0) (load0_cz (fu := fu) h (by omega) (by omega) (by omega)) ?_
    intro _ ρ q
    rw [zL_s h1] at q
    rw [ltb_def, ofi]
    exact ih (c + 1) f ρ q (by omega) (by omega) (by omega)
end CZ44
section CZ45
variable {b0 fu : Nat} {σ τ ρ : tM} {C C' X : tS} {D D' : tD} {l r m k c q : Nat}
theorem spB_cz (l1 : l ≤ 4096) (r1 : 1 ≤ r) (r2 : r ≤ 2000) (h10 : C 10 11 = 0 ∧ C 10 12 = 0 ∧ C 10 13 = 0) (h15 : ∀ c, C 15 c = 0 ∧ C 16 c = 0 ∧ C 17 c = 0) (hu : 3000 ≤ fu) (h : CMz b0 σ C D) : wp (FCz b0) σ (ckO b0 σ (b0 + 10) 5 (L_X5_reset_34 b0 fu fu (b0 + 10) 1 (sI (sI (sI σ (b0 + 10) 7 (34 + (if (0 : Int32) < (if (2000 : Int32) < nI r then 2000 else nI r) then (if (2000 : Int32) < nI r then 2000 else nI r) else (0 : Int32)))) (b0 + 10) 8 (nI l)) (b0 + 10) 15 0))) (fun _ τ => ∃ C', CMz b0 τ C' D ∧ S2p l r C C') := by
  have e1 : (34 : Int32) + (if (0 : Int32) < (if (2000 : Int32) < nI r then 2000 else nI r) then (if (2000 : Int32) < nI r then 2000 else nI r) else (0 : Int32)) = nI (34 + r) := by
    rw [show (2000 : Int32) = nI 2000 from rfl, if_neg (show ¬ nI 2000 < nI r from fun q => by have := (nI_ltP (a := 2000) (b := r) (by omega) (by omega)).mp q; omega), if_pos (show (0 : Int32) < nI r from (nI_ltP (a := 0) (b := r) (by omega) (by omega)).mpr (by omega))]
    exact nI_add 34 r
  rw [e1, ckC_10z h.lay]
  have k1 := CM_fixz (o := 10) (j := 7) (x := 34 + r) (v := nI (34 + r)) h rfl rfl (show 34 + r < 2147483648 by omega)
  have k2 := CM_fixz (o := 10) (j := 8) (x := l) (v := nI l) k1 rfl rfl (show l < 2147483648 by omega)
  have k3 := CM_fixz (o := 10) (j := 15) (x := 0) (v := 0) k2 rfl rfl (by decide)
  have e : zL (Y0 C l r) 1 = Y0 C l r := by
    funext p q
    unfold zL
    rw [if_neg (by omega)]
  exact wp_from (FC_goodz b0) (FC_2z (FC_2z (FC_sIz (o := 10) (j := 7) (v := nI (34 + r)) h.rf (by omega)) (FC_sIz (o := 10) (j := 8) (v := nI l) k1.rf (by omega))) (FC_sIz (o := 10) (j := 15) (v := 0) k2.rf (by omega))) (spR34z l1 r2 h10 h15 hu 33 1 fu _ (by rw [e]; exact k3) (by omega) (by omega) (by omega))
end CZ45
section CZ46
variable {b0 fu : Nat} {σ τ ρ : tM} {C C' X : tS} {D D' : tD} {mo z : Nat → Nat} {l r m k c q : Nat}
theorem jr1_cz (hl : l < 1000000) (hc : ci C) (hu : 3000 ≤ fu) (h : CMz b0 σ C D) : wp (FCz b0) σ (m_X1_restart b0 fu (b0 + 20) 0 (sI (sI (sI σ (b0 + 20) 8 (nI l)) (b0 + 20) 11 0) (b0 + 20) 17 0)) (fun _ τ => CMz b0 τ (jrC C l) D) := by
  have k1 := CM_fixz (o := 20) (j := 8) (x := l) (v := nI l) h rfl rfl (show l < 2147483648 by omega)
  have k2 := CM_fixz (o := 20) (j := 11) (x := 0) (v := 0) k1 rfl rfl (by decide)
  have k3 := CM_fixz (o := 20) (j := 17) (x := 0) (v := 0) k2 rfl rfl (by decide)
  exact wp_from (FC_goodz b0) (FC_2z (FC_2z (FC_sIz (o := 20) (j := 8) (v := nI l) h.rf (by omega)) (FC_sIz (o := 20) (j := 11) (v := 0) k1.rf (by omega))) (FC_sIz (o := 20) (j := 17) (v := 0) k2.rf (by omega))) (restart_cz (fu := fu) (to := 0) k3 (ci_cong hc (fun q _ => by rw [up2_o (by decide), up2_o (by decide), up2_o (by decide)]) (by rw [up2_rown (by decide), up2_rown (by decide), up2_rown (by decide)]) (by rw [up2_rown (by decide), up2_rown (by decide), up2_rown (by decide)]) (by rw [up2_rown (by decide), up2_rown (by decide), up2_rown (by decide)])) (by omega) hu)
end CZ46
section CZ47
variable {b0 fu : Nat} {σ τ ρ : tM} {C C' X : tS} {D D' : tD} {mo z : Nat → Nat} {l r m k c q : Nat}
theorem pf28z (h : CMz b0 σ C D) : wp (FCz b0) σ (m_X3_forget b0 fu (b0 + 28) σ) (fun _ τ => CMz b0 τ (up2 (up2 (up2 C 28 1 0) 28 2 0) 28 3 0) D) := by
  have k1 := CM_fixz (o := 28) (j := 1) (x := 0) (v := 0) h rfl rfl (by decide)
  have k2 := CM_fixz (o := 28) (j := 2) (x := 0) (v := 0) k1 rfl rfl (by decide)
  have k3 := CM_fixz (o := 28) (j := 3) (x := 0) (v := 0) k2 rfl rfl (by decide)
  refine wp_grw (FC_goodz b0) ?_
  rw [ckC_28z h.lay]
  exact wp_ret (FC_2z (FC_2z (FC_sIz (o := 28) (j := 1) (v := 0) h.rf (by omega)) (FC_sIz (o := 28) (j := 2) (v := 0) k1.rf (by omega))) (FC_sIz (o := 28) (j := 3) (v := 0) k2.rf (by omega))) k3
end CZ47
section CZ48
variable {b0 fu : Nat} {σ τ ρ : tM} {C C' X : tS} {D D' : tD} {mo z : Nat → Nat} {l r m k c q : Nat}
theorem pf30z (h : CMz b0 σ C D) : wp (FCz b0) σ (m_X3_forget b0 fu (b0 + 30) σ) (fun _ τ => CMz b0 τ (up2 (up2 (up2 C 30 1 0) 30 2 0) 30 3 0) D) := by
  have k1 := CM_fixz (o := 30) (j := 1) (x := 0) (v := 0) h rfl rfl (by decide)
  have k2 := CM_fixz (o := 30) (j := 2) (x := 0) (v := 0) k1 rfl rfl (by decide)
  have k3 := CM_fixz (o := 30) (j := 3) (x := 0) (v := 0) k2 rfl rfl (by decide)
  refine wp_grw (FC_goodz b0) ?_
  rw [ckC_30z h.lay]
  exact wp_ret (FC_2z (FC_2z (FC_sIz (o := 30) (j := 1) (v := 0) h.rf (by omega)) (FC_sIz (o := 30) (j := 2) (v := 0) k1.rf (by omega))) (FC_sIz (o := 30) (j := 3) (v := 0) k2.rf (by omega))) k3
end CZ48
section CZ49
variable {b0 fu : Nat} {σ τ ρ : tM} {C C' X : tS} {D D' : tD} {mo z : Nat → Nat} {l r m k c q : Nat}
theorem tail_cz (hu : 3000 ≤ fu) (h : CMz b0 σ C D) : wp (FCz b0) σ (ckO b0 σ (b0 + 0) 10 (osm (tA σ (b0 + 0) 6) (fun a48 => ckO b0 σ a48 6 (cll (m_X6_useUp b0 fu a48 σ) (fun v52 ρ53 => ckO b0 ρ53 (b0 + 0) 10 (osm (tA ρ53 (b0 + 0) 7) (fun a57 => ckO b0 ρ53 a57 3 (cll (m_X3_forget b0 fu a57 ρ53) (fun v61 ρ62 => ckO b0 ρ62 (b0 + 0) 10 (osm (tA ρ62 (b0 + 0) 8) (fun a66 => ckO b0 ρ62 a66 3 (cll (m_X3_forget b0 fu a66 ρ62) (fun v70 ρ71 => ckO b0 ρ71 (b0 + 0) 10 (osm (tA ρ71 (b0 + 0) 9) (fun a75 => cll (m_J7_fill_53178 b0 fu a75 (-1) ρ71) (fun v77 ρ78 => some ((), ρ78))))))))))))))))) (fun _ τ => CMz b0 τ (tlC C) D) := by
  rw [ckC_0z h.lay, osm_p (rfC_0_6z h.lay), ckC_26z h.lay]
  refine wp_bind (FC_goodz b0) (useUp_cz (fu := fu) h) (fun _ ρ1 q1 => ?_)
  rw [ckC_0z q1.lay, osm_p (rfC_0_7z q1.lay), ckC_28z q1.lay]
  refine wp_bind (FC_goodz b0) (pf28z (fu := fu) q1) (fun _ ρ2 q2 => ?_)
  rw [ckC_0z q2.lay, osm_p (rfC_0_8z q2.lay), ckC_30z q2.lay]
  refine wp_bind (FC_goodz b0) (pf30z (fu := fu) q2) (fun _ ρ3 q3 => ?_)
  rw [ckC_0z q3.lay, osm_p (rfC_0_9z q3.lay)]
  refine wp_bind (FC_goodz b0) (fill_hz (fu := fu) q3 hu) (fun _ ρ4 q4 => ?_)
  exact wp_ret ((FC_goodz b0).1 _) q4
end CZ49
