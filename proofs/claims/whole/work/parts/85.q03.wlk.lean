/-! ===== PURE: the class's walk is the reference's ===== -/
section WD
variable {b0 fu : Nat} {σ τ : tM} {C A : tS} {D : tD}
theorem iz_neg {k : Nat} (h : k < 2147483648) : (0 : Int32) ≤ nI k := (nI_leP (a := 0) (b := k) (by omega) h).mpr (Nat.zero_le _)
theorem seg1 {tx : Nat → Nat} {st l : Nat} (hl : l = 1 ∨ l = 2) : (tx st = 46 ∧ tx (st + l - 1) = 46) ↔ (seg tx st l = [46] ∨ seg tx st l = [46, 46]) := by
  rcases hl with rfl | rfl
  · simp [seg]
  · simp [seg]
/-- where a name leads -/
theorem look_c (h : CA b0 σ C) (hc : ci C) (hV : VW C A) {d st l : Nat} (hd : d < 64) (h1 : 1 ≤ l) (hb : ∀ i, i < l → C 25 (st + i) < 128) (hst : st + l ≤ 760) (hu : 10000 ≤ fu) : m_X9_look b0 fu (b0 + 24) (nI d) (nI st) (nI l) σ = some (iz (lkR A d (seg (C 25) st l)), σ) := by
  have L := h.lay
  have bk : kiC C d < 256 := Nat.mod_lt _ (by decide)
  have hl : (seg (C 25) st l).length = l := seg_len _ _ _
  unfold m_X9_look J_X9_look_44 J_X9_look_89
  rw [ckC_24 L, osm_p (rfC_24_0 L), ckC_18 L, kind_c h hd, cll_some]
  unfold lkR
  by_cases c : nd A d 0 = 2
  · have e : kiC C d = 2 := by rw [hV.kind d hd, c]
    obtain ⟨z1, z2, z3⟩ := hV.size d hd c
    rw [if_pos (show nI (kiC C d) = 2 by rw [e]; rfl), if_neg (by omega), ckC_24 L, osm_p (rfC_24_1 L), isDots_c h (Or.inl ⟨rfl, rfl⟩) hst, cll_some]
    by_cases c1 : (l = 1 ∨ l = 2) ∧ C 25 st = 46 ∧ C 25 (st + l - 1) = 46
    · rw [if_pos c1, if_neg (show ¬ nI 1 = 0 by decide)]
      have q := (seg1 (tx := C 25) c1.1).mp c1.2
      by_cases c2 : l = 1
      · have q1 : seg (C 25) st l = [46] := by
          rcases q with q | q
          · exact q
          · rw [q] at hl
            simp at hl
            omega
        rw [if_pos (show nI l = 1 by rw [c2]; rfl), if_pos q1, iz_n]
        exact grw_same
      · have q1 : seg (C 25) st l = [46, 46] := by
          rcases q with q | q
          · rw [q] at hl
            simp at hl
            omega
          · exact q
        rw [if_neg (show ¬ nI l = 1 from fun r => c2 ((nI_eq (a := l) (b := 1) (by omega) (by omega)).mp r)), ckC_24 L, osm_p (rfC_24_0 L), ckC_18 L, parent_c h hd, cll_some, if_neg (by rw [q1]; decide), if_pos q1, (hV.par d hd c).1, iz_n]
        exact grw_same
    · rw [if_neg c1, if_pos (show nI 0 = 0 from rfl)]
      have q : ¬ (seg (C 25) st l = [46] ∨ seg (C 25) st l = [46, 46]) := by
        intro r
        have : l = 1 ∨ l = 2 := by
          rcases r with r | r
          · rw [r] at hl; simp at hl; omega
          · rw [r] at hl; simp at hl; omega
        exact c1 ⟨this, (seg1 this).mpr r⟩
      rw [if_neg (fun r => q (Or.inl r)), if_neg (fun r => q (Or.inr r)), hl]
      by_cases c2 : l ≤ 28
      · rw [if_pos (show nI l ≤ 28 from (nI_leP (a := l) (b := 28) (by omega) (by omega)).mpr c2), if_neg (by omega), ckC_24 L, osm_p (rfC_24_0 L), osm_p (rfC_24_1 L), ckC_18 L, find_c h hc (Or.inl ⟨rfl, rfl⟩) hd hb hst (by omega) hu, cll_some]
        obtain ⟨f1, f2⟩ := fn_eq hV (o := 25) (st := st) hd c h1
        have f3 : fA A d (fun i => (seg (C 25) st l).getD i 0) l = fnC C d 25 st l := by
          rw [f2]
          exact fA_cong (fun i hi => seg_get _ _ _ _ hi)
        have f4 : fnC C d 25 st l ≤ alE C d := by
          have := (sr_le (fE C d 25 st l) (alE C d) 0).2
          unfold fnC
          omega
        rw [f3, ← f1]
        have ab : alE C d ≤ 8512 := by unfold alE; rw [if_pos e, z1]; omega
        by_cases c3 : fnC C d 25 st l = alE C d
        · rw [if_pos (Or.inr (Or.inr c3)), if_neg (by decide), if_pos (by omega)]
          exact grw_same
        · rw [if_neg (show ¬ (l < 1 ∨ 28 < l ∨ fnC C d 25 st l = alE C d) by omega), if_pos (iz_neg (by omega)), if_neg (by omega), ckC_24 L, osm_p (rfC_24_0 L), ckC_18 L, nodeAt_c h hc hd (by omega), cll_some]
          obtain ⟨g1, g2⟩ := hV.ent d (fnC C d 25 st l) hd c (by omega)
          have g3 : eN A d (fnC C d 25 st l) ≠ 64 := by
            intro r
            rw [if_pos r] at g1
            have q := sr_is (fE C d 25 st l) (alE C d) 0 (by unfold fnC at f4 c3; omega)
            have q' : fE C d 25 st l (fnC C d 25 st l) = true := q
            unfold fE at q'
            rw [g1] at q'
            simp at q'
            omega
          have g4 := (g2 g3).2.1
          unfold clE at g4
          rw [g4, iz_n]
          exact grw_same
      · rw [if_neg (show ¬ nI l ≤ 28 from fun r => c2 ((nI_leP (a := l) (b := 28) (by omega) (by omega)).mp r)), if_pos (by omega)]
        exact grw_same
  · have e : kiC C d = nd A d 0 := hV.kind d hd
    rw [if_neg (show ¬ nI (kiC C d) = 2 from fun r => c (by rw [← e]; exact (nI_eq (a := kiC C d) (b := 2) (by omega) (by omega)).mp r)), if_pos c]
    exact grw_same
/-- the text that is left, with a link's ahead -/
def siX (A : tS) (g en s : Nat) (tx : Nat → Nat) : Nat → Nat := fun i => if i < nd A g 4 then nd A g (5 + i) else if i < nd A g 4 + (s - en) then tx (en + (i - nd A g 4)) else tx i
theorem si80 {g : Nat} (hg : g < 64) {m0 lf : Nat} (h8 : nd A g 4 = m0) (hm : m0 ≤ 80) (hl : m0 + lf ≤ 760) : ∀ m k f σ C, CM b0 σ C D → ci C → VW C A → nd A g 0 = 3 → k + m = m0 → m < f → wp (FC b0) σ (L_X9_standIn_80 b0 fu f (b0 + 24) (nI g) (nI m0) (nI lf) (nI k) σ) (fun v τ => v = 1 ∧ CM b0 τ (up2 (up2 (upR C 25 (fun i => if k ≤ i ∧ i < m0 then nd A g (5 + i) else C 25 i)) 24 2 0) 24 3 (m0 + lf)) D) := by
  intro m
  induction m with
  | zero =>
    intro k f σ C h hc hV hk3 hk hf
    obtain ⟨f, rfl⟩ : ∃ q, f = q + 1 := ⟨f - 1, by omega⟩
    have L := h.lay
    unfold L_X9_standIn_80
    rw [ltb_def, if_l (by omega) (by omega), if_pos (by omega), ckC_24 L, nI_add]
    have e : upR C 25 (fun i => if k ≤ i ∧ i < m0 then nd A g (5 + i) else C 25 i) = C := by
      funext p q
      unfold upR
      by_cases c : p = 25
      · rw [if_pos c]
        dsimp only
        rw [if_neg (by omega), c]
      · rw [if_neg c]
    rw [e]
    have k1 := CM_fix (o := 24) (j := 2) (x := 0) (v := 0) h rfl rfl (by decide)
    exact wp_ret (FC_2 (FC_sI h.rf (by omega)) (FC_sI (o := 24) (j := 3) (v := nI (m0 + lf)) k1.rf (by omega))) ⟨rfl, CM_fix (o := 24) (j := 3) (x := m0 + lf) (v := nI (m0 + lf)) k1 rfl rfl (by show _ < 2147483648; omega)⟩
  | succ m ih =>
    intro k f σ C h hc hV hk3 hk hf
    obtain ⟨f, rfl⟩ : ∃ q, f = q + 1 := ⟨f - 1, by omega⟩
    have L := h.lay
    obtain ⟨l1, l2, l3, l4⟩ := hV.lnk g hg hk3
    obtain ⟨x1, x2⟩ := l4 k (by omega)
    unfold L_X9_standIn_80
    rw [ltb_def, if_l (by omega) (by omega), if_neg (by omega), ckC_24 L, osm_p (rfC_24_1 L), osm_p (rfC_24_0 L), ckC_18 L, textOctet_c h.ca hc hg (by omega), cll_some, ckC_25 L, ckI_n (by omega) (by omega), ltb_def, ofi, nI_cl (by omega), x1]
    have e0 : vp_nar .byte (nI (nd A g (5 + k))).toInt8.toInt32 = sb (nd A g (5 + k)) := vb_sb _
    rw [e0]
    refine wp_from (FC_good b0) (FC_sI (v := sb (nd A g (5 + k))) (o := 25) (j := k) h.rf (by omega)) (wp_mono (ih (k + 1) f _ (up2 C 25 k (nd A g (5 + k))) (CM_fix (o := 25) h rfl rfl (by show _ < 256; omega)) (ci_o hc (up2_rown (by decide)) (up2_rown (by decide)) (up2_rown (by decide)) (up2_rown (by decide))) (VW_o hV (up2_rown (by decide)) (up2_rown (by decide))) hk3 (by omega) (by omega)) ?_)
    intro v ρ _ ⟨q1, q2⟩
    refine ⟨q1, ?_⟩
    have e : upR (up2 C 25 k (nd A g (5 + k))) 25 (fun i => if k + 1 ≤ i ∧ i < m0 then nd A g (5 + i) else up2 C 25 k (nd A g (5 + k)) 25 i) = upR C 25 (fun i => if k ≤ i ∧ i < m0 then nd A g (5 + i) else C 25 i) := by
      funext p q
      unfold upR
      by_cases c : p = 25
      · rw [if_pos c, if_pos c]
        dsimp only
        by_cases c2 : q = k
        · subst c2
          rw [if_neg (by omega), if_pos (by omega), up2_s]
        · by_cases c3 : k + 1 ≤ q ∧ q < m0
          · rw [if_pos c3, if_pos (by omega)]
          · rw [if_neg c3, if_neg (by omega), up2_j c2]
      · rw [if_neg c, if_neg c, up2_o c]
    rw [e] at q2
    exact q2
theorem standIn_c (h : CM b0 σ C D) (hc : ci C) (hV : VW C A) {g en s lk : Nat} (hg : g < 64) (h3 : nd A g 0 = 3) (e2 : C 24 2 = en) (e3 : C 24 3 = s) (e4 : C 24 4 = lk) (hes : en ≤ s) (hs : s ≤ 120 + 80 * lk) (hl : lk ≤ 8) (hu : 1000 ≤ fu) : wp (FC b0) σ (m_X9_standIn b0 fu (b0 + 24) (nI g) σ) (fun v τ => if lk = 8 then v = 0 ∧ CM b0 τ C D else v = 1 ∧ CM b0 τ (up2 (up2 (upR (up2 C 24 4 (lk + 1)) 25 (siX A g en s (C 25))) 24 2 0) 24 3 (nd A g 4 + (s - en))) D) := by
  have L := h.lay
  have h74 := L.1
  obtain ⟨l1, l2, l3, l4⟩ := hV.lnk g hg h3
  refine wp_grw (FC_good b0) ?_
  unfold J_X9_standIn_48
  rw [ckC_24 L, osm_p (rfC_24_0 L), ckC_18 L, size_c h.ca hg, cll_some, ckC_24 L, ltb_def, cf_24_3 h.ca, cf_24_2 h.ca, cf_24_4 h.ca, e2, e3, e4, nI_sb hes, l1]
  by_cases c : lk = 8
  · simp only [if_pos c]
    subst c
    rw [if_pos (show (8 : Int32) ≤ nI 8 by decide)]
    exact wp_ret ((FC_good b0).1 _) ⟨rfl, h⟩
  · simp only [if_neg c]
    rw [if_neg (show ¬ (8 : Int32) ≤ nI lk from fun r => by have := (nI_leP (a := 8) (b := lk) (by omega) (by omega)).mp r; omega), if_neg (show ¬ nI (nd A g 4) < 1 from fun r => by have := (nI_ltP (a := nd A g 4) (b := 1) (by omega) (by omega)).mp r; omega), if_neg (nI_pos (by omega)), osm_p (rfC_24_1 L), ckC_25 L, nI_add, if_l (by omega) (by omega), if_pos (by omega), show nI lk + (1 : Int32) = nI (lk + 1) from nI_add _ 1]
    have k1 := CM_fix (o := 24) (j := 4) (x := lk + 1) (v := nI (lk + 1)) h rfl rfl (by show _ < 2147483648; omega)
    have L1 := k1.lay
    rw [osm_p (rfC_24_1 L1), osm_p (rfC_24_1 L1), ckC_25 L1, ckC_25 L1, cf_24_2 k1.ca, up2_j (by decide), e2]
    have r25 : tI (sI σ (b0 + 24) 4 (nI (lk + 1))) (b0 + 25) = fun j => sb (C 25 j) := by
      funext j
      rw [cd_25 k1.ca, up2_o (by decide)]
    have ckc : ∀ (k : Option (Int32 × tM)), ckC (nI en) (nI (nd A g 4)) (nI (s - en)) 760 760 k = k := fun k => by
      unfold ckC
      rw [nI_cl (by omega), nI_cl (by omega), nI_cl (by omega), if_pos ⟨⟨nI_pos (by omega), nI_pos (by omega), nI_pos (by omega)⟩, by omega, by omega⟩]
    have ckf : ∀ (k : Option (Int32 × tM)), ckF (tI (sI σ (b0 + 24) 4 (nI (lk + 1))) (b0 + 25)) (nI en) (nI (s - en)) k = k := fun k => by
      unfold ckF
      rw [r25, if_pos]
      intro j hj
      exact sb_sb _
    rw [ckc, ckf, ltb_def, nI_cl (by omega), nI_cl (by omega), nI_cl (by omega)]
    generalize hF : va_cpy (tI (sI σ (b0 + 24) 4 (nI (lk + 1))) (b0 + 25)) (tI (sI σ (b0 + 24) 4 (nI (lk + 1))) (b0 + 25)) en (nd A g 4) (s - en) = F
    have k2 : CM b0 (sIr (sI σ (b0 + 24) 4 (nI (lk + 1))) (b0 + 25) F) (upR (up2 C 24 4 (lk + 1)) 25 (fun i => if nd A g 4 ≤ i ∧ i < nd A g 4 + (s - en) then C 25 (en + (i - nd A g 4)) else C 25 i)) D := by
      refine CM_rowI k1 rfl (by decide) (fun j => ?_) (fun j => ?_)
      · show F j = sb (if nd A g 4 ≤ j ∧ j < nd A g 4 + (s - en) then _ else _)
        rw [← hF, r25]
        by_cases q : nd A g 4 ≤ j ∧ j < nd A g 4 + (s - en)
        · rw [pk_cpy_in q.1 (by omega), if_pos q]
        · rw [pk_cpy_out (by omega), if_neg q]
      · show (if nd A g 4 ≤ j ∧ j < nd A g 4 + (s - en) then _ else _) < 256
        split
        · exact cb_25 h.ca _
        · exact cb_25 h.ca _
    refine wp_from (FC_good b0) (FC_2 (FC_sI (v := nI (lk + 1)) (o := 24) (j := 4) h.rf (by omega)) (FC_sIr (o := 25) (F := F) k1.rf (by omega))) ?_
    refine wp_mono (si80 (A := A) hg rfl l3 (lf := s - en) (by omega) (nd A g 4) 0 fu _ _ k2 (ci_o hc ?_ ?_ ?_ ?_) (VW_o hV ?_ ?_) h3 (by omega) (by omega)) ?_
    · funext j; rw [upR_o (by decide), up2_o (by decide)]
    · funext j; rw [upR_o (by decide), up2_o (by decide)]
    · funext j; rw [upR_o (by decide), up2_o (by decide)]
    · funext j; rw [upR_o (by decide), up2_o (by decide)]
    · funext j; rw [upR_o (by decide), up2_o (by decide)]
    · funext j; rw [upR_o (by decide), up2_o (by decide)]
    · intro v ρ _ ⟨q1, q2⟩
      refine ⟨q1, ?_⟩
      have e : ∀ (Y : Nat → Nat) (X : tS) (Z : Nat → Nat), upR (upR X 25 Y) 25 Z = upR X 25 Z := by
        intro Y X Z
        funext p q
        unfold upR
        by_cases c : p = 25
        · rw [if_pos c, if_pos c]
        · rw [if_neg c, if_neg c, if_neg c]
      rw [e] at q2
      have e9 : (fun i => if 0 ≤ i ∧ i < nd A g 4 then nd A g (5 + i) else upR (up2 C 24 4 (lk + 1)) 25 (fun i => if nd A g 4 ≤ i ∧ i < nd A g 4 + (s - en) then C 25 (en + (i - nd A g 4)) else C 25 i) 25 i) = siX A g en s (C 25) := by
        funext i
        unfold siX
        rw [upR_s]
        by_cases c : i < nd A g 4
        · rw [if_pos (by omega), if_pos c]
        · rw [if_neg (by omega), if_neg c]
          by_cases c2 : i < nd A g 4 + (s - en)
          · rw [if_pos (by omega), if_pos c2]
          · rw [if_neg (by omega), if_neg c2]
      rw [e9] at q2
      exact q2
end WD
