/-! ===== PURE: walkWhole, walkAhead ===== -/
section WF
variable {b0 fu : Nat} {σ τ : tM} {C A : tS} {D : tD}
theorem walk_c {p n : Nat} (hp : p = 28 ∨ p = 30) (h : CM b0 σ C D) (hc : ci C) (hV : VW C A) (hn : n ≤ 120) (hb : ∀ i, i < n → C (p + 1) i < 128) (fo : Bool) (hu : 10000 ≤ fu) : wp (FC b0) σ (m_X9_walk b0 fu (b0 + 24) (b0 + p) (nI n) (nI (b2n fo)) σ) (fun v τ => v = iz (wkA A fo (cps [] (seg (C (p + 1)) 0 n))) ∧ ∃ C', CM b0 τ C' D ∧ ∀ p, p ≠ 24 → p ≠ 25 → C' p = C p) := by
  have L := h.lay
  have hb0 := L.1
  have e0 : ((if (0 : Int32) < (if (120 : Int32) < nI n then 120 else nI n) then (if (120 : Int32) < nI n then 120 else nI n) else 0) : Int32) = nI n := by
    have a1 : ¬ (120 : Int32) < nI n := by
      show ¬ nI 120 < nI n
      rw [nI_ltP (by omega) (by omega)]
      omega
    rw [if_neg a1]
    by_cases c : (0 : Int32) < nI n
    · rw [if_pos c]
    · rw [if_neg c]
      have : ¬ nI 0 < nI n := c
      rw [nI_ltP (by omega) (by omega)] at this
      rw [show n = 0 by omega]
      rfl
  refine wp_grw (FC_good b0) ?_
  rw [e0, ckC_24 L]
  have q1 := CM_fix (o := 24) (j := 3) (x := n) (v := nI n) h rfl rfl (by show _ < 2147483648; omega)
  have fr1 : FC b0 σ (sI σ (b0 + 24) 3 (nI n)) := FC_sI h.rf (by omega)
  generalize sI σ (b0 + 24) 3 (nI n) = σ1 at q1 fr1
  refine wp_from (FC_good b0) fr1 ?_
  have L1 := q1.lay
  have hb1 := L1.1
  obtain ⟨o1, o2, o3⟩ := pO hp L1
  obtain ⟨f1, f2, f3, f4, f5⟩ := pF hp q1.ca
  have fb : ∀ j, C (p + 1) j < 256 := fun j => by have := f5 j; rwa [up2_o (by omega)] at this
  rw [ckO_p o1 ⟨by omega, by omega⟩, osm_p o2, osm_p (rfC_24_1 L1), ckR_p o3 ⟨by omega, by omega⟩, ckC_25 L1, cf_24_3 q1.ca, up2_s]
  have r29 : tI σ1 (b0 + (p + 1)) = fun j => sb (C (p + 1) j) := by
    funext j
    rw [f4, up2_o (by omega)]
  have ckc : ∀ (k : Option (Int32 × tM)), ckC 0 0 (nI n) 120 760 k = k := fun k => by
    unfold ckC
    rw [nI_cl (by omega), show (0 : Int32).toNatClampNeg = 0 from rfl, if_pos ⟨⟨by decide, by decide, nI_pos (by omega)⟩, by omega, by omega⟩]
  have ckf : ∀ (k : Option (Int32 × tM)), ckF (tI σ1 (b0 + (p + 1))) 0 (nI n) k = k := fun k => by
    unfold ckF
    rw [r29, if_pos]
    intro j hj
    exact sb_sb _
  rw [ckc, ckf, ltb_def, nI_cl (by omega), show (0 : Int32).toNatClampNeg = 0 from rfl]
  generalize hF : va_cpy (tI σ1 (b0 + (p + 1))) (tI σ1 (b0 + 25)) 0 0 n = F
  have q2 : CM b0 (sIr σ1 (b0 + 25) F) (upR (up2 C 24 3 n) 25 (fun i => if i < n then C (p + 1) i else C 25 i)) D := by
    refine CM_rowI q1 rfl (by decide) (fun j => ?_) (fun j => ?_)
    · show F j = sb (if j < n then _ else _)
      rw [← hF, r29]
      by_cases q : j < n
      · rw [pk_cpy_in (Nat.zero_le _) (by omega), if_pos q]
        congr 2
        omega
      · rw [pk_cpy_out (by omega), if_neg q, cd_25 q1.ca, up2_o (by decide)]
    · show (if j < n then _ else _) < 256
      split
      · exact fb _
      · exact cb_25 h.ca _
  have q3 := CM_fix (o := 24) (j := 2) (x := 0) (v := 0) q2 rfl rfl (by decide)
  have q4 := CM_fix (o := 24) (j := 4) (x := 0) (v := 0) q3 rfl rfl (by decide)
  have fr : FC b0 σ1 (sI (sI (sIr σ1 (b0 + 25) F) (b0 + 24) 2 0) (b0 + 24) 4 0) := FC_2 (FC_sIr (o := 25) (F := F) q1.rf (by omega)) (FC_2 (FC_sI (o := 24) (j := 2) (v := 0) q2.rf (by omega)) (FC_sI (o := 24) (j := 4) (v := 0) q3.rf (by omega)))
  generalize sI (sI (sIr σ1 (b0 + 25) F) (b0 + 24) 2 0) (b0 + 24) 4 0 = σ4 at q4 fr
  refine wp_from (FC_good b0) fr ?_
  generalize hC : up2 (up2 (upR (up2 C 24 3 n) 25 (fun i => if i < n then C (p + 1) i else C 25 i)) 24 2 0) 24 4 0 = C4 at q4
  have o4 : ∀ q, q ≠ 24 → q ≠ 25 → C4 q = C q := fun q a1 a2 => by
    funext i
    rw [← hC, up2_o a1, up2_o a1, upR_o a2, up2_o a1]
  have t4 : ∀ i, i < n → C4 25 i = C (p + 1) i := fun i hi => by
    rw [← hC, up2_o (by decide), up2_o (by decide), upR_s, if_pos hi]
  have sg : seg (C4 25) 0 (n - 0) = seg (C (p + 1)) 0 n := by
    rw [Nat.sub_zero]
    exact seg_cong _ _ _ (fun i hi => by rw [Nat.zero_add]; exact t4 i hi)
  have ln : 2 * (cps [] (seg (C (p + 1)) 0 n)).length ≤ n + 1 := by
    have := cps_len (seg (C (p + 1)) 0 n) []
    rw [seg_len] at this
    simpa using this
  have y := walk_lp (fu := fu) (A := A) hu fo 1000 fu 0 0 n 0 0 σ4 C4 q4 (ci_o hc (o4 10 (by decide) (by decide)) (o4 15 (by decide) (by decide)) (o4 16 (by decide) (by decide)) (o4 17 (by decide) (by decide))) (VW_o hV (o4 10 (by decide) (by decide)) (o4 11 (by decide) (by decide)))
    (by rw [← hC, up2_j (by decide), up2_s]) (by rw [← hC, up2_j (by decide), up2_j (by decide), upR_o (by decide), up2_s]) (by rw [← hC, up2_s]) (Nat.zero_le _) (by omega) (by omega) (by omega) (fun i hi => by rw [t4 i hi]; exact hb i hi) (by rw [sg]; omega) (by rw [sg]; omega) (by rw [sg]; omega)
  rw [sg] at y
  refine wp_mono y ?_
  intro v ρ _ ⟨y1, C', y2, y3⟩
  exact ⟨y1, C', y2, fun q a1 a2 => by rw [y3 q a1 a2, o4 q a1 a2]⟩
/-- a path's cells, alike -/
theorem TP_w {w : Nat} (hT : TP C A) (hw : w < 2) : C (28 + 2 * w) 1 = A 64 w ∧ C (28 + 2 * w) 2 = lsF A w ∧ C (28 + 2 * w) 3 = lsN A w ∧ C (28 + 2 * w + 1) = A (62 + w) := by
  have : w = 0 ∨ w = 1 := by omega
  rcases this with rfl | rfl
  · exact ⟨hT.2.2.1.1, hT.2.2.1.2.1, hT.2.2.1.2.2.1, funext hT.2.2.1.2.2.2⟩
  · exact ⟨hT.2.2.2.1, hT.2.2.2.2.1, hT.2.2.2.2.2.1, funext hT.2.2.2.2.2.2⟩
theorem walkWhole_c {w : Nat} (hw : w < 2) (h : CM b0 σ C D) (hc : ci C) (hV : VW C A) (hT : TP C A) (hP : patOk A) (fo : Bool) (hu : 10000 ≤ fu) : wp (FC b0) σ (m_X9_walkWhole b0 fu (b0 + 24) (b0 + (28 + 2 * w)) (nI (b2n fo)) σ) (fun v τ => v = iz (wkA A fo (cps [] (seg (A (62 + w)) 0 (A 64 w)))) ∧ ∃ C', CM b0 τ C' D ∧ ∀ p, p ≠ 24 → p ≠ 25 → C' p = C p) := by
  have L := h.lay
  have hb0 := L.1
  have hp : 28 + 2 * w = 28 ∨ 28 + 2 * w = 30 := by omega
  obtain ⟨o1, o2, o3⟩ := pO hp L
  obtain ⟨f1, f2, f3, f4, f5⟩ := pF hp h.ca
  obtain ⟨t1, t2, t3, t4⟩ := TP_w hT hw
  obtain ⟨p1, p2⟩ := hP w hw
  refine wp_grw (FC_good b0) ?_
  rw [ckO_p o1 ⟨by omega, by omega⟩, ckC_24 L, f1, t1]
  refine wp_bind (FC_good b0) (walk_c (fu := fu) hp h hc hV p1 (fun i hi => by rw [t4]; have := p2 i hi; omega) fo hu) ?_
  intro v ρ q
  rw [t4] at q
  exact wp_ret ((FC_good b0).1 _) q
theorem hasOwn_c {w : Nat} (hw : w < 2) (h : CA b0 σ C) (hT : TP C A) (hP : patOk A) : m_X3_hasOwnLastName b0 fu (b0 + (28 + 2 * w)) σ = some (nI (if dts A w = true then 0 else 1), σ) := by
  have L := h.lay
  have hb0 := L.1
  have hp : 28 + 2 * w = 28 ∨ 28 + 2 * w = 30 := by omega
  obtain ⟨o1, o2, o3⟩ := pO hp L
  obtain ⟨f1, f2, f3, f4, f5⟩ := pF hp h
  obtain ⟨t1, t2, t3, t4⟩ := TP_w hT hw
  obtain ⟨p1, p2⟩ := hP w hw
  have l1 := laE_le (A (62 + w)) (A 64 w)
  have l2 := laF_le (A (62 + w)) (laE (A (62 + w)) (A 64 w))
  have ls : lsF A w + lsN A w ≤ 120 := by
    unfold lsF lsN
    omega
  unfold m_X3_hasOwnLastName J_X3_hasOwnLastName_29 J_X3_hasOwnLastName_30
  rw [ckO_p o1 ⟨by omega, by omega⟩, f3, t3, f2, t2, show ckZ 0 (some ((0 : Int32), σ)) = some ((0 : Int32), σ) from rfl]
  by_cases c : lsN A w = 0
  · rw [if_pos (show nI (lsN A w) ≤ 0 by rw [c]; decide), if_pos (by unfold dts; exact decide_eq_true (Or.inl c))]
    exact grw_same
  · rw [if_neg (show ¬ nI (lsN A w) ≤ 0 from fun r => by have := (nI_leP (a := lsN A w) (b := 0) (by omega) (by omega)).mp r; omega), osm_p o2, isDots_c h (len := 120) (by unfold isX; omega) (by omega), cll_some, t4]
    by_cases c2 : (lsN A w = 1 ∨ lsN A w = 2) ∧ A (62 + w) (lsF A w) = 46 ∧ A (62 + w) (lsF A w + lsN A w - 1) = 46
    · rw [if_pos c2, if_neg (show ¬ nI 1 = 0 by decide), if_pos]
      · exact grw_same
      · unfold dts
        refine decide_eq_true (Or.inr ?_)
        rcases c2.1 with e | e
        · exact Or.inl ⟨e, c2.2.1⟩
        · refine Or.inr ⟨e, c2.2.1, ?_⟩
          have := c2.2.2
          rwa [e, show lsF A w + 2 - 1 = lsF A w + 1 by omega] at this
    · rw [if_neg c2, if_pos (show nI 0 = 0 from rfl), if_neg]
      · exact grw_same
      · unfold dts
        intro r
        rcases of_decide_eq_true r with r | r | r
        · exact c r
        · exact c2 ⟨Or.inl r.1, r.2, by rw [r.1, show lsF A w + 1 - 1 = lsF A w by omega]; exact r.2⟩
        · exact c2 ⟨Or.inr r.1, r.2.1, by rw [r.1, show lsF A w + 2 - 1 = lsF A w + 1 by omega]; exact r.2.2⟩
theorem walkAhead_c {w : Nat} (hw : w < 2) (h : CM b0 σ C D) (hc : ci C) (hV : VW C A) (hT : TP C A) (hP : patOk A) (hk : okT A) (hu : 10000 ≤ fu) : wp (FC b0) σ (m_X9_walkAhead b0 fu (b0 + 24) (b0 + (28 + 2 * w)) σ) (fun v τ => v = iz (waA A w) ∧ ∃ C', CM b0 τ C' D ∧ ∀ p, p ≠ 24 → p ≠ 25 → C' p = C p) := by
  have L := h.lay
  have hb0 := L.1
  have hp : 28 + 2 * w = 28 ∨ 28 + 2 * w = 30 := by omega
  obtain ⟨o1, o2, o3⟩ := pO hp L
  obtain ⟨f1, f2, f3, f4, f5⟩ := pF hp h.ca
  obtain ⟨t1, t2, t3, t4⟩ := TP_w hT hw
  obtain ⟨p1, p2⟩ := hP w hw
  have l1 := laE_le (A (62 + w)) (A 64 w)
  have l2 := laF_le (A (62 + w)) (laE (A (62 + w)) (A 64 w))
  have ls : lsF A w ≤ A 64 w := by
    unfold lsF
    omega
  refine wp_grw (FC_good b0) ?_
  rw [ckO_p o1 ⟨by omega, by omega⟩, ckC_24 L, f2, t2]
  refine wp_bind (FC_good b0) (walk_c (fu := fu) (n := lsF A w) hp h hc hV (by omega) (fun i hi => by rw [t4]; have := p2 i (by omega); omega) true hu) ?_
  intro v ρ ⟨q1, C', q2, q3⟩
  rw [t4] at q1
  have bd := wk_bd hk true 1000 0 0 (cps [] (seg (A (62 + w)) 0 (lsF A w))) (by omega)
  have bd' : -10 ≤ wkA A true (cps [] (seg (A (62 + w)) 0 (lsF A w))) ∧ wkA A true (cps [] (seg (A (62 + w)) 0 (lsF A w))) < 64 := bd
  have ge := iz_ge bd'.1 bd'.2
  unfold waA
  generalize wkA A true (cps [] (seg (A (62 + w)) 0 (lsF A w))) = z at *
  subst q1
  by_cases c : 0 ≤ z
  · obtain ⟨n, rfl⟩ := Int.eq_ofNat_of_zero_le c
    have n64 : n < 64 := by omega
    have L' := q2.lay
    have hb1 := L'.1
    have c24 : ∀ p, p ≠ 24 → p ≠ 25 → C' p = C p := q3
    have hT' : TP C' A := by
      unfold TP at hT ⊢
      rw [c24 26 (by decide) (by decide), c24 27 (by decide) (by decide), c24 28 (by decide) (by decide), c24 29 (by decide) (by decide), c24 30 (by decide) (by decide), c24 31 (by decide) (by decide)]
      exact hT
    obtain ⟨o1', -, -⟩ := pO hp L'
    have kn : kiC C' n = nd A n 0 := by
      have := (VW_o hV (c24 10 (by decide) (by decide)) (c24 11 (by decide) (by decide))).kind n n64
      exact this
    have kb : kiC C' n < 256 := Nat.mod_lt _ (by decide)
    rw [iz_n, if_pos (iz_neg (by omega)), ckO_p o1' ⟨by omega, by omega⟩, hasOwn_c hw q2.ca hT' hP, cll_some]
    simp only [if_neg (show ¬ ((n : Nat) : Int) < 0 by omega)]
    unfold J_X9_walkAhead_45
    by_cases c2 : dts A w = true
    · simp only [if_pos c2]
      rw [if_pos (show nI 0 = 0 from rfl)]
      exact wp_ret ((FC_good b0).1 _) ⟨rfl, C', q2, q3⟩
    · simp only [if_neg c2]
      rw [if_neg (show ¬ nI 1 = 0 by decide), ckC_24 L', osm_p (rfC_24_0 L'), ckC_18 L', kind_c q2.ca n64, cll_some, kn]
      rw [kn] at kb
      show wp (FC b0) ρ _ (fun v τ => v = iz (if nd A n 0 = 2 then ((n : Nat) : Int) else -3) ∧ _)
      by_cases c3 : nd A n 0 = 2
      · simp only [if_pos c3]
        rw [if_pos (show nI (nd A n 0) = 2 by rw [c3]; rfl)]
        exact wp_ret ((FC_good b0).1 _) ⟨(iz_n n).symm, C', q2, q3⟩
      · simp only [if_neg c3]
        rw [if_neg (show ¬ nI (nd A n 0) = 2 from fun r => c3 ((nI_eq (a := nd A n 0) (b := 2) (by omega) (by omega)).mp r))]
        exact wp_ret ((FC_good b0).1 _) ⟨rfl, C', q2, q3⟩
  · rw [if_neg (fun r => c (ge.mp r))]
    simp only [if_pos (show z < 0 by omega)]
    exact wp_ret ((FC_good b0).1 _) ⟨rfl, C', q2, q3⟩
end WF
