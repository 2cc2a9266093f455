/-! ===== PURE: the class's Tree: obtain ===== -/
def ffC (C : tS) : Nat := sr (fun c => C 12 c == 1) 34 (C 10 7 - 34)
def gpV (C : tS) : Nat := (C 10 15 + 1) * 65536 + ffC C
def gtC (C : tS) (n : Nat) (mt : Bool) : tS := obC C (ffC C) n mt
def ob1T (C : tS) (n i : Nat) : tS := if 40 ≤ i ∧ nwC C n 10 = 0 then snC (gtC C n true) n 10 (gpV C) else C
def ob2T (C : tS) (n i : Nat) : tS := if 8 ≤ i ∧ tbC C n i = 0 then (if i < 40 then snC (gtC C n true) n 9 (gpV C) else swoC (gtC C n true) (nwC (gtC C n true) n 10 % 2048) ((i - 40) / 32) (gpV C)) else C
def ob3T (C : tS) (n i : Nat) : tS := up2 (spC (gtC C n (kiC C n == 2)) n i (gpV C)) 19 n 1
def obT (C : tS) (n i : Nat) : tS := if ptC C n i = 0 then ob3T (ob2T (ob1T C n i) n i) n i else C
/-- how many cells it takes -/
def obN (C : tS) (n i : Nat) : Nat := (if 40 ≤ i ∧ nwC C n 10 = 0 then 1 else 0) + (if 8 ≤ i ∧ tbC (ob1T C n i) n i = 0 then 1 else 0) + 1
section OB
variable {b0 fu : Nat} {σ τ : tM} {C : tS} {D : tD}
theorem ff_is (h : ci C) (hs : sk C) (h9 : 0 < C 10 9) : isF C (ffC C) := by
  have c1 := h.1.1
  have h1 := sr_cn (fun c => C 12 c == 1) (C 10 7 - 34) 34 (by rw [← hs.1]; exact h9)
  have h2 := sr_is (fun c => C 12 c == 1) (C 10 7 - 34) 34 h1
  have h3 := sr_le (fun c => C 12 c == 1) (C 10 7 - 34) 34
  refine ⟨h3.1, ?_, ?_, fun k k1 k2 => ?_⟩
  · have : sr (fun c => C 12 c == 1) 34 (C 10 7 - 34) < C 10 7 := by omega
    exact this
  · exact beq_iff_eq.mp h2
  · have := sr_no (fun c => C 12 c == 1) (C 10 7 - 34) 34 k k1 k2
    simpa using this
theorem ob_row {c n p : Nat} {mt : Bool} (h0 : p ≠ 10) (h1 : p ≠ 11) (h2 : p ≠ 15) : obC C c n mt p = ob1 C c n p := by
  unfold obC
  show (if mt = true then touC (touC (mrkC (ob1 C c n) c true) 1) c else touC (mrkC (ob1 C c n) c true) 1) p = _
  split
  · rw [tou_o h0 h2, tou_o h0 h2, mrk_o h1]
  · rw [tou_o h0 h2, mrk_o h1]
theorem ob_10 {c n q : Nat} {mt : Bool} (h : q ≠ 11) : obC C c n mt 10 q = ob1 C c n 10 q := by
  unfold obC
  show (if mt = true then touC (touC (mrkC (ob1 C c n) c true) 1) c else touC (mrkC (ob1 C c n) c true) 1) 10 q = _
  split
  · rw [tou_10 h, tou_10 h, mrk_o (by decide)]
  · rw [tou_10 h, mrk_o (by decide)]
theorem ob1_9 {c n : Nat} : ob1 C c n 10 9 = C 10 9 - 1 ∧ ob1 C c n 10 14 = c ∧ ob1 C c n 10 15 = C 10 15 + 1 := by
  unfold ob1
  rw [ldR_o (by decide), ado_o (by decide) (by decide) (by decide)]
  exact ⟨by rw [up2_j (by decide), up2_s], by rw [up2_j (by decide), up2_j (by decide), up2_s], up2_s _ _ _ _⟩
theorem ob1_12 {c n k : Nat} (hc : 34 ≤ c ∧ c < C 10 7) : ob1 C c n 12 k = if k = c then 0 else C 12 k := by
  unfold ob1
  rw [ldR_o (by decide)]
  unfold adoC
  rw [if_pos (by rw [up2_j (by decide), up2_j (by decide), up2_j (by decide)]; exact hc), up2_o (by decide), up2_o (by decide)]
  by_cases e : k = c
  · rw [if_pos e, e, up2_s]
  · rw [if_neg e, up2_j e, up2_o (by decide), up2_o (by decide), up2_o (by decide)]
theorem ci_ob {c n : Nat} {mt : Bool} (h : ci C) : ci (obC C c n mt) := by
  unfold obC
  show ci (if mt = true then touC (touC (mrkC (ob1 C c n) c true) 1) c else touC (mrkC (ob1 C c n) c true) 1)
  split
  · exact ci_tou (ci_tou (ci_mrk (ci_ob1 h)))
  · exact ci_tou (ci_mrk (ci_ob1 h))
theorem sk_cong {X : tS} (h : sk C) (h12 : X 12 = C 12) (h10 : ∀ q, q = 7 ∨ q = 9 ∨ q = 10 ∨ q = 14 → X 10 q = C 10 q) : sk X := by
  unfold sk
  rw [h12, h10 7 (by omega), h10 9 (by omega), h10 10 (by omega), h10 14 (by omega)]
  exact h
theorem sk_ob {c n : Nat} {mt : Bool} (hs : sk C) (hf : isF C c) : sk (obC C c n mt) := by
  obtain ⟨f1, f2, f3, f4⟩ := hf
  have e12 : ∀ k, obC C c n mt 12 k = if k = c then 0 else C 12 k := fun k => by rw [ob_row (by decide) (by decide) (by decide), ob1_12 ⟨f1, f2⟩]
  have e7 : obC C c n mt 10 7 = C 10 7 := by rw [ob_10 (by decide), ob1_10 (by decide) (by decide) (by decide)]
  have e9 : obC C c n mt 10 9 = C 10 9 - 1 := by rw [ob_10 (by decide), ob1_9.1]
  have e10 : obC C c n mt 10 10 = C 10 10 := by rw [ob_10 (by decide), ob1_10 (by decide) (by decide) (by decide)]
  have e14 : obC C c n mt 10 14 = c := by rw [ob_10 (by decide), ob1_9.2.1]
  refine ⟨?_, ?_, ?_, fun k k1 k2 => ?_⟩
  · rw [e9, e7, hs.1]
    exact (cn_off (p := fun k => C 12 k == 1) (q := fun k => obC C c n mt 12 k == 1) (x := c) (by simp [f3]) (by show (_ == 1) = false; rw [e12, if_pos rfl]; rfl) _ _ f1 (by omega) (fun i _ _ hi => by rw [e12, if_neg hi])).symm
  · rw [e10, e7, hs.2.1]
    refine cn_congr _ _ (fun i _ _ => ?_)
    rw [e12]
    by_cases e : i = c
    · rw [if_pos e, e, f3]
      rfl
    · rw [if_neg e]
  · rw [e14, e7]
    omega
  · rw [e14] at k2
    rw [e12, if_neg (by omega)]
    exact f4 k k1 k2
theorem sk_tou {c : Nat} (h : sk C) : sk (touC C c) := sk_cong h (tou_o (by decide) (by decide)) (fun q hq => tou_10 (by omega))
theorem sk_11 {j x : Nat} (h : sk C) : sk (up2 C 11 j x) := sk_cong h (up2_rown (by decide)) (fun q _ => by rw [up2_o (by decide)])
theorem sk_sn {n i v : Nat} (h : sk C) : sk (snC C n i v) := sk_tou (sk_11 h)
theorem sk_swo {c i v : Nat} (h : sk C) : sk (swoC C c i v) := by
  unfold swoC
  split
  · exact sk_tou (sk_11 h)
  · exact h
theorem sk_sp {n i v : Nat} (h : sk C) : sk (spC C n i v) := by
  unfold spC
  split
  · exact sk_sn h
  · exact sk_swo h
theorem sn_10 {n i v q : Nat} (h : q ≠ 11) : snC C n i v 10 q = C 10 q := by
  unfold snC
  rw [tou_10 h, up2_o (by decide)]
theorem swo_10 {c i v q : Nat} (h : q ≠ 11) : swoC C c i v 10 q = C 10 q := by
  unfold swoC
  split
  · rw [tou_10 h, up2_o (by decide)]
  · rfl
theorem gt_10 {n : Nat} {mt : Bool} : gtC C n mt 10 9 = C 10 9 - 1 ∧ gtC C n mt 10 15 = C 10 15 + 1 ∧ gtC C n mt 10 7 = C 10 7 := by
  unfold gtC
  exact ⟨by rw [ob_10 (by decide), ob1_9.1], by rw [ob_10 (by decide), ob1_9.2.2], by rw [ob_10 (by decide), ob1_10 (by decide) (by decide) (by decide)]⟩
theorem gpV_lt (h : ci C) (hs : sk C) (h9 : 0 < C 10 9) (hb : C 10 15 + 1 < 1000000) : gpV C < 18446744073709551616 := by
  have := (ff_is h hs h9).2.1
  have := h.1.2.1
  unfold gpV
  omega
theorem get_c (h : CM b0 σ C D) (hc : ci C) (hs : sk C) (h9 : 0 < C 10 9) {n : Nat} (hn : n < 64) (hb : C 10 15 + 1 < 1000000) (hu : 3000 ≤ fu) (mt : Bool) : wp (FC b0) σ (m_X5_obtain b0 fu (b0 + 10) (nI n) (nI (b2n mt)) σ) (fun v τ => v = lN (gpV C) ∧ CM b0 τ (gtC C n mt) D) := obtain_c h hc hs (ff_is hc hs h9) hn hb hu mt
theorem ci_19 {n v : Nat} (h : ci C) : ci (up2 C 19 n v) := ci_cong h (fun q _ => up2_o (by decide)) (up2_rown (by decide)) (up2_rown (by decide)) (up2_rown (by decide))
theorem obt126 (h : CM b0 σ C D) (hc : ci C) (hs : sk C) (h9 : 0 < C 10 9) {n i : Nat} (hn : n < 64) (hi : i < 1064) (hb : C 10 15 + 1 < 1000000) (hu : 3000 ≤ fu) : wp (FC b0) σ (J_X8_obtain_126 b0 fu (b0 + 18) (nI n) (nI i) σ) (fun _ τ => CM b0 τ (ob3T C n i) D) := by
  have L := h.lay
  have k1 := (kna C n).1
  unfold J_X8_obtain_126 J_X8_obtain_148
  rw [ckC_18 L, osm_p (rfC_18_0 L), kind_c h.ca hn, cll_some, ckC_10 L]
  have body : ∀ mt : Bool, mt = (kiC C n == 2) → wp (FC b0) σ (cll (m_X5_obtain b0 fu (b0 + 10) (nI n) (nI (b2n mt)) σ) (fun v21 ρ22 => ckO b0 ρ22 (b0 + 18) 8 (cll (m_X8_setPointer b0 fu (b0 + 18) (nI n) (nI i) v21 ρ22) (fun v26 ρ27 => ckO b0 ρ27 (b0 + 18) 8 (cll (m_X8_noteChange b0 fu (b0 + 18) (nI n) 1 ρ27) (fun v31 ρ32 => some ((), ρ32))))))) (fun _ τ => CM b0 τ (ob3T C n i) D) := by
    intro mt hmt
    refine wp_bind (FC_good b0) (get_c (fu := fu) h hc hs h9 hn hb hu mt) ?_
    rintro v ρ ⟨e1, q1⟩
    subst e1
    rw [ckC_18 q1.lay]
    refine wp_bind (FC_good b0) (setPointer_c (fu := fu) q1 (ci_ob hc) hn hi (gpV_lt hc hs h9 hb)) ?_
    intro _ ρ2 q2
    rw [ckC_18 q2.lay]
    refine wp_bind (FC_good b0) (noteChange_c (fu := fu) (v := 1) q2 hn (by omega)) ?_
    intro _ ρ3 q3
    unfold ob3T
    rw [← hmt]
    exact wp_ret ((FC_good b0).1 _) q3
  show wp (FC b0) σ (if nI (kiC C n) = nI 2 then _ else _) _
  rw [if_e (by omega) (by omega)]
  by_cases c : kiC C n = 2
  · rw [if_pos c]
    exact body true (by simp [c])
  · rw [if_neg c, ckC_10 L]
    exact body false (by simp [c])
theorem obt57 (h : CM b0 σ C D) (hc : ci C) (hs : sk C) {n i : Nat} (h9 : (if 8 ≤ i ∧ tbC C n i = 0 then 1 else 0) + 1 ≤ C 10 9) (hn : n < 64) (hi : i < 1064) (hb : C 10 15 + 2 < 1000000) (hu : 3000 ≤ fu) : wp (FC b0) σ (J_X8_obtain_57 b0 fu (b0 + 18) (nI n) (nI i) σ) (fun _ τ => CM b0 τ (ob3T (ob2T C n i) n i) D) := by
  have L := h.lay
  unfold J_X8_obtain_57 ob2T
  show wp (FC b0) σ (if nI i < nI 8 then _ else _) _
  rw [if_t (by omega) (by omega)]
  by_cases c : i < 8
  · rw [if_neg (show ¬ (8 ≤ i ∧ tbC C n i = 0) by omega)] at h9 ⊢
    rw [if_pos c]
    exact obt126 h hc hs (by omega) hn hi (by omega) hu
  · rw [if_neg c, ckC_18 L, table_c h.ca hn (by omega) hi, cll_some, lgz (by unfold tbC; split <;> exact cb_11 h.ca _)]
    by_cases c2 : tbC C n i = 0
    · have cc : 8 ≤ i ∧ tbC C n i = 0 := ⟨by omega, c2⟩
      rw [if_pos cc] at h9
      rw [if_pos c2, if_pos cc, ckC_18 L, osm_p (rfC_18_0 L), ckC_10 L]
      refine wp_bind (FC_good b0) (get_c (fu := fu) h hc hs (by omega) hn (by omega) hu true) ?_
      rintro v ρ ⟨e1, q1⟩
      subst e1
      obtain ⟨g9, g15, g7⟩ := gt_10 (C := C) (n := n) (mt := true)
      have gl := gpV_lt hc hs (by omega) (show C 10 15 + 1 < 1000000 by omega)
      have gs : sk (gtC C n true) := sk_ob hs (ff_is hc hs (by omega))
      have gc : ci (gtC C n true) := ci_ob hc
      show wp (FC b0) ρ (if nI 40 ≤ nI i then _ else _) _
      rw [if_l (by omega) (by omega)]
      by_cases c3 : i < 40
      · rw [if_neg (by omega), if_pos c3, ckC_18 q1.lay]
        refine wp_bind (FC_good b0) (setNodeWord_c (fu := fu) (i := 9) q1 gc hn (by omega) gl) ?_
        intro _ ρ2 q2
        exact obt126 q2 (ci_sn gc) (sk_sn gs) (by rw [sn_10 (by decide), g9]; omega) hn hi (by rw [sn_10 (by decide), g15]; omega) hu
      · have e6 : nI i - (40 : Int32) = nI (i - 40) := nI_sb (b := 40) (by omega)
        have e7 : nI (i - 40) / (32 : Int32) = nI ((i - 40) / 32) := nI_dv (d := 32) (by omega) (by omega) (by omega)
        have m1 : nwC (gtC C n true) n 10 % 2048 < 2048 := Nat.mod_lt _ (by omega)
        rw [if_pos (by omega), if_neg c3, ckC_18 q1.lay, osm_p (rfC_18_0 q1.lay)]
        show wp (FC b0) ρ (cll (m_X8_nodeWord b0 fu (b0 + 18) (nI n) (nI 10) ρ) _) _
        rw [nodeWord_c q1.ca hn (by omega), cll_some, cellOf_c, cll_some, ckC_10 q1.lay, e6, e7]
        refine wp_bind (FC_good b0) (setWord_c (fu := fu) q1 gc (by omega) (by omega) gl) ?_
        intro _ ρ2 q2
        exact obt126 q2 (ci_swo gc) (sk_swo gs) (by rw [swo_10 (by decide), g9]; omega) hn hi (by rw [swo_10 (by decide), g15]; omega) hu
    · have cc : ¬ (8 ≤ i ∧ tbC C n i = 0) := fun r => c2 r.2
      rw [if_neg cc] at h9
      rw [if_neg c2, if_neg cc]
      exact obt126 h hc hs (by omega) hn hi (by omega) hu
theorem obt_c (h : CM b0 σ C D) (hc : ci C) (hs : sk C) {n i : Nat} (h9 : ptC C n i = 0 → obN C n i ≤ C 10 9) (hn : n < 64) (hi : i < 1064) (hb : C 10 15 + 3 < 1000000) (hu : 3000 ≤ fu) : wp (FC b0) σ (m_X8_obtain b0 fu (b0 + 18) (nI n) (nI i) σ) (fun _ τ => CM b0 τ (obT C n i) D) := by
  have L := h.lay
  refine wp_grw (FC_good b0) ?_
  unfold J_X8_obtain_22 obT
  have pl : ptC C n i < 18446744073709551616 := by unfold ptC nwC; split <;> exact cb_11 h.ca _
  rw [if_neg (nI_pos (by omega)), show (1064 : Int32) = nI 1064 from rfl, if_l (by omega) (by omega), if_neg (by omega), ckC_18 L, pointer_c h.ca hn hi, cll_some, lgz pl]
  by_cases c : ptC C n i = 0
  · have h9 := h9 c
    unfold obN at h9
    rw [if_pos c, if_pos c]
    show wp (FC b0) σ (if nI i < nI 40 then _ else _) _
    rw [if_t (by omega) (by omega)]
    by_cases c1 : i < 40
    · have e1 : ob1T C n i = C := if_neg (by omega)
      rw [e1] at h9 ⊢
      rw [if_neg (show ¬ (40 ≤ i ∧ nwC C n 10 = 0) by omega), Nat.zero_add] at h9
      rw [if_pos c1]
      exact obt57 h hc hs h9 hn hi (by omega) hu
    · rw [if_neg c1, ckC_18 L]
      show wp (FC b0) σ (cll (m_X8_nodeWord b0 fu (b0 + 18) (nI n) (nI 10) σ) _) _
      rw [nodeWord_c h.ca hn (by omega), cll_some, lgz (nw_lt h.ca n 10)]
      by_cases c2 : nwC C n 10 = 0
      · have e1 : ob1T C n i = snC (gtC C n true) n 10 (gpV C) := if_pos ⟨by omega, c2⟩
        rw [e1] at h9 ⊢
        rw [if_pos (show 40 ≤ i ∧ nwC C n 10 = 0 from ⟨by omega, c2⟩)] at h9
        rw [if_pos c2, ckC_18 L, osm_p (rfC_18_0 L), ckC_10 L]
        refine wp_bind (FC_good b0) (get_c (fu := fu) h hc hs (by omega) hn (by omega) hu true) ?_
        rintro v ρ ⟨e1, q1⟩
        subst e1
        obtain ⟨g9, g15, g7⟩ := gt_10 (C := C) (n := n) (mt := true)
        have gl := gpV_lt hc hs (by omega) (show C 10 15 + 1 < 1000000 by omega)
        have gs : sk (gtC C n true) := sk_ob hs (ff_is hc hs (by omega))
        have gc : ci (gtC C n true) := ci_ob hc
        rw [ckC_18 q1.lay]
        refine wp_bind (FC_good b0) (setNodeWord_c (fu := fu) (i := 10) q1 gc hn (by omega) gl) ?_
        intro _ ρ2 q2
        exact obt57 q2 (ci_sn gc) (sk_sn gs) (by rw [sn_10 (by decide), g9]; omega) hn hi (by rw [sn_10 (by decide), g15]; omega) hu
      · have e1 : ob1T C n i = C := if_neg (fun r => c2 r.2)
        rw [e1] at h9 ⊢
        rw [if_neg (show ¬ (40 ≤ i ∧ nwC C n 10 = 0) from fun r => c2 r.2), Nat.zero_add] at h9
        rw [if_neg c2]
        exact obt57 h hc hs h9 hn hi (by omega) hu
  · rw [if_neg c, if_neg c]
    exact wp_ret ((FC_good b0).1 _) h
end OB
