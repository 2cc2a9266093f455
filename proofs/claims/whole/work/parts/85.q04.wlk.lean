/-! ===== PURE: the class's walk is the reference's, its loop ===== -/
section WE
variable {b0 fu : Nat} {σ τ : tM} {C A : tS} {D : tD}
theorem cps_ah {tx : Nat → Nat} {en s : Nat} (l : List Nat) (h : en ≤ s) (h7 : en < s → tx en = 47) : cps [] (l ++ seg tx en (s - en)) = cps [] l ++ cps [] (seg tx en (s - en)) := by
  by_cases c : en = s
  · subst c
    rw [Nat.sub_self]
    simp [seg, cps]
  · obtain ⟨m, hm⟩ : ∃ m, s - en = m + 1 := ⟨s - en - 1, by omega⟩
    rw [hm]
    show cps [] (l ++ tx en :: seg tx (en + 1) m) = cps [] l ++ cps [] (tx en :: seg tx (en + 1) m)
    rw [h7 (by omega), cps_ap]
    congr 1
theorem seg_si {g en s : Nat} {tx : Nat → Nat} : seg (siX A g en s tx) 0 (nd A g 4 + (s - en)) = tl A g ++ seg tx en (s - en) := by
  rw [seg_app]
  unfold tl
  congr 1
  · refine seg_cong _ _ _ (fun i hi => ?_)
    unfold siX
    rw [if_pos (by omega)]
  · refine seg_cong _ _ _ (fun i hi => ?_)
    unfold siX
    rw [if_neg (by omega), if_pos (by omega)]
    congr 1
    omega
theorem ab_tl {g : Nat} (h : 1 ≤ nd A g 4) : ab (tl A g) = (nd A g 5 == 47) := by
  unfold tl
  obtain ⟨m, hm⟩ : ∃ m, nd A g 4 = m + 1 := ⟨nd A g 4 - 1, by omega⟩
  rw [hm]
  rfl
theorem walk_lp (hu : 10000 ≤ fu) (fo : Bool) : ∀ w f d lk s k j σ C, CM b0 σ C D → ci C → VW C A → C 24 2 = k → C 24 3 = s → C 24 4 = lk → k ≤ s → s ≤ 120 + 80 * lk → lk ≤ 8 → d < 64 → (∀ i, i < s → C 25 i < 128) → (cps [] (seg (C 25) k (s - k))).length + 42 * (8 - lk) < w → (cps [] (seg (C 25) k (s - k))).length + 42 * (8 - lk) < f → (cps [] (seg (C 25) k (s - k))).length + 42 * (8 - lk) + j < 2000 →
    wp (FC b0) σ (L_X9_walk_47 b0 fu f (b0 + 24) (nI (b2n fo)) (nI d) (nI j) σ) (fun v τ => v = iz (wk A fo w d lk (cps [] (seg (C 25) k (s - k)))) ∧ ∃ C', CM b0 τ C' D ∧ ∀ p, p ≠ 24 → p ≠ 25 → C' p = C p) := by
  intro w
  induction w with
  | zero => intro f d lk s k j σ C _ _ _ _ _ _ _ _ _ _ _ hw; omega
  | succ w ih =>
    intro f d lk s k j σ C h hc hV e2 e3 e4 hk hs hl hd hb hw hf hj
    obtain ⟨f, rfl⟩ : ∃ q, f = q + 1 := ⟨f - 1, by omega⟩
    have L := h.lay
    have h7 : s ≤ 760 := by omega
    have hs1 := cps_sl (C 25) (s - k) k
    have r1 := sr_le (fun i => C 25 i != 47) (s - k) k
    have r2 : sr (fun i => C 25 i != 47) k (s - k) < s → C 25 (sr (fun i => C 25 i != 47) k (s - k)) ≠ 47 := fun q => by
      have := sr_is (fun i => C 25 i != 47) (s - k) k (by omega)
      simpa using this
    rw [show k + (s - k) = s by omega] at hs1 r1
    have es := eSl (fu := fu) h.ca e3 h7 hk (by omega)
    generalize hX : sr (fun i => C 25 i != 47) k (s - k) = k1 at hs1 r1 r2 es
    rw [hs1] at hw hf hj ⊢
    unfold L_X9_walk_47
    rw [ltb_def, if_neg (show ¬ (2000 : Int32) ≤ nI j from fun r => by have := (nI_leP (a := 2000) (b := j) (by omega) (by omega)).mp r; omega), ckC_24 L, cf_24_2 h.ca, e2, es, cll_some, ckC_24 L]
    have q1 := CM_fix (o := 24) (j := 2) (x := k1) (v := nI k1) h rfl rfl (by show _ < 2147483648; omega)
    have fr1 : FC b0 σ (sI σ (b0 + 24) 2 (nI k1)) := FC_sI h.rf (by omega)
    generalize hσ1 : sI σ (b0 + 24) 2 (nI k1) = σ1 at q1 fr1
    refine wp_from (FC_good b0) fr1 ?_
    have L1 := q1.lay
    rw [cf_24_2 q1.ca, cf_24_3 q1.ca, up2_s, up2_j (by decide), e3, if_t (by omega) (by omega)]
    have oth1 : ∀ p, p ≠ 24 → p ≠ 25 → up2 C 24 2 k1 p = C p := fun p a1 _ => up2_rown a1
    by_cases c0 : k1 < s
    · rw [if_pos c0, ltb_def]
      have hc1 : ci (up2 C 24 2 k1) := ci_o hc (up2_rown (by decide)) (up2_rown (by decide)) (up2_rown (by decide)) (up2_rown (by decide))
      have en1 := eNm (fu := fu) (s := s) q1.ca (by rw [up2_j (by decide)]; exact e3) h7 (k := k1) (by omega) (by omega)
      rw [up2_rown (show (25 : Nat) ≠ 24 by decide)] at en1
      rw [en1, cll_some, ckC_24 L1]
      have hh := cps_hd (tx := C 25) (m := s - k1) (a := k1) (by omega) (r2 c0)
      have r3 := sr_le (fun i => C 25 i == 47) (s - k1) k1
      rw [show k1 + (s - k1) = s by omega] at hh r3
      have r4 : sr (fun i => C 25 i == 47) k1 (s - k1) < s → C 25 (sr (fun i => C 25 i == 47) k1 (s - k1)) = 47 := fun q => by
        have := sr_is (fun i => C 25 i == 47) (s - k1) k1 (by omega)
        simpa using this
      have hen : k1 < sr (fun i => C 25 i == 47) k1 (s - k1) := by
        by_cases q : k1 = sr (fun i => C 25 i == 47) k1 (s - k1)
        · have := r4 (by omega)
          rw [← q] at this
          exact absurd this (r2 c0)
        · omega
      generalize hE : sr (fun i => C 25 i == 47) k1 (s - k1) = en at hh r3 r4 hen ⊢
      generalize hcs : cps [] (seg (C 25) en (s - en)) = cs at hh
      rw [hh] at hw hf hj ⊢
      simp only [List.length_cons] at hw hf hj
      have q2 := CM_fix (o := 24) (j := 2) (x := en) (v := nI en) q1 rfl rfl (by show _ < 2147483648; omega)
      have fr2 : FC b0 σ1 (sI σ1 (b0 + 24) 2 (nI en)) := FC_sI q1.rf (by omega)
      rw [up2_2] at q2
      generalize hσ2 : sI σ1 (b0 + 24) 2 (nI en) = σ2 at q2 fr2
      refine wp_from (FC_good b0) fr2 ?_
      have L2 := q2.lay
      have c25 : up2 C 24 2 en 25 = C 25 := up2_rown (by decide)
      have hc2 : ci (up2 C 24 2 en) := ci_o hc (up2_rown (by decide)) (up2_rown (by decide)) (up2_rown (by decide)) (up2_rown (by decide))
      have hV2 : VW (up2 C 24 2 en) A := VW_o hV (up2_rown (by decide)) (up2_rown (by decide))
      have oth2 : ∀ p, p ≠ 24 → p ≠ 25 → up2 C 24 2 en p = C p := fun p a1 _ => up2_rown a1
      have lo := look_c (fu := fu) q2.ca hc2 hV2 (d := d) (st := k1) (l := en - k1) hd (by omega) (fun i hi => by rw [c25]; exact hb _ (by omega)) (by omega) hu
      rw [c25] at lo
      rw [cf_24_2 q2.ca, up2_s, nI_sb (by omega), lo, cll_some]
      have hcl : (seg (C 25) k1 (en - k1)).length = en - k1 := seg_len _ _ _
      generalize hseg : seg (C 25) k1 (en - k1) = c at hcl
      -- what comes behind a name
      have goOn : ∀ (nx : Nat), nx < 64 → wp (FC b0) σ2 (J_X9_walk_168 b0 fu (L_X9_walk_47 b0 fu f) (b0 + 24) (nI (b2n fo)) (nI j) (nI nx) σ2) (fun v τ => v = iz (wk A fo w nx lk cs) ∧ ∃ C', CM b0 τ C' D ∧ ∀ p, p ≠ 24 → p ≠ 25 → C' p = C p) := by
        intro nx hnx
        unfold J_X9_walk_168 J_X9_walk_201
        rw [ltb_def, ofi]
        have z := ih f nx lk s en (j + 1) σ2 (up2 C 24 2 en) q2 hc2 hV2 (up2_s _ _ _ _) (by rw [up2_j (by decide)]; exact e3) (by rw [up2_j (by decide)]; exact e4) (by omega) hs hl hnx (fun i hi => by rw [c25]; exact hb i hi) (by rw [c25, hcs]; omega) (by rw [c25, hcs]; omega) (by rw [c25, hcs]; omega)
        rw [c25, hcs] at z
        refine wp_mono z ?_
        intro v ρ _ ⟨x1, C', x2, x3⟩
        exact ⟨x1, C', x2, fun p a1 a2 => by rw [x3 p a1 a2, oth2 p a1 a2]⟩
      have esl := eSl (fu := fu) (s := s) q2.ca (by rw [up2_j (by decide)]; exact e3) h7 (k := en) (by omega) (by omega)
      rw [c25] at esl
      have hs2 := cps_sl (C 25) (s - en) en
      have r5 := sr_le (fun i => C 25 i != 47) (s - en) en
      have r6 : sr (fun i => C 25 i != 47) en (s - en) < s → C 25 (sr (fun i => C 25 i != 47) en (s - en)) ≠ 47 := fun q => by
        have := sr_is (fun i => C 25 i != 47) (s - en) en (by omega)
        simpa using this
      rw [show en + (s - en) = s by omega] at hs2 r5
      generalize hX3 : sr (fun i => C 25 i != 47) en (s - en) = k3 at hs2 r5 r6 esl
      have isL : (s ≤ k3 ↔ cs = []) := by
        rw [← hcs, hs2]
        constructor
        · intro q
          rw [show s - k3 = 0 by omega]
          rfl
        · intro q
          refine Nat.not_lt.mp (fun r => ?_)
          rw [cps_hd (by omega) (r6 r)] at q
          cases q
      have step : ∀ nx, nx < 64 → wp (FC b0) σ2 (ckO b0 σ2 (b0 + 24) 9 (cll (m_X9_endOfSlashes b0 fu (b0 + 24) (tI σ2 (b0 + 24) 2) σ2) (fun v47 ρ48 => ckO b0 ρ48 (b0 + 24) 9 (if v47 < tI ρ48 (b0 + 24) 3 then J_X9_walk_144 b0 fu (L_X9_walk_47 b0 fu f) (b0 + 24) (nI (b2n fo)) (nI d) (nI j) (nI nx) 0 ρ48 else J_X9_walk_144 b0 fu (L_X9_walk_47 b0 fu f) (b0 + 24) (nI (b2n fo)) (nI d) (nI j) (nI nx) 1 ρ48)))) (fun v τ => v = iz (if nd A nx 0 = 3 ∧ (cs ≠ [] ∨ fo = true) then (if lk = 8 then -8 else wk A fo w (if ab (tl A nx) then 0 else d) (lk + 1) (cps [] (tl A nx) ++ cs)) else wk A fo w nx lk cs) ∧ ∃ C', CM b0 τ C' D ∧ ∀ p, p ≠ 24 → p ≠ 25 → C' p = C p) := by
        intro nx hnx
        have kn : kiC (up2 C 24 2 en) nx = nd A nx 0 := hV2.kind nx hnx
        have kb : kiC (up2 C 24 2 en) nx < 256 := Nat.mod_lt _ (by decide)
        have w168 := goOn nx hnx
        have w175 : nd A nx 0 = 3 → wp (FC b0) σ2 (J_X9_walk_175 b0 fu (L_X9_walk_47 b0 fu f) (b0 + 24) (nI (b2n fo)) (nI d) (nI j) (nI nx) σ2) (fun v τ => v = iz (if lk = 8 then -8 else wk A fo w (if ab (tl A nx) then 0 else d) (lk + 1) (cps [] (tl A nx) ++ cs)) ∧ ∃ C', CM b0 τ C' D ∧ ∀ p, p ≠ 24 → p ≠ 25 → C' p = C p) := by
          intro n3
          obtain ⟨l1, l2, l3, l4⟩ := hV2.lnk nx hnx n3
          unfold J_X9_walk_175 J_X9_walk_201
          rw [ckC_24 L2]
          refine wp_bind (FC_good b0) (standIn_c (fu := fu) (en := en) (s := s) (lk := lk) q2 hc2 hV2 hnx n3 (up2_s _ _ _ _) (by rw [up2_j (by decide)]; exact e3) (by rw [up2_j (by decide)]; exact e4) (by omega) hs hl (by omega)) ?_
          intro v ρ q
          by_cases c8 : lk = 8
          · simp only [if_pos c8] at q ⊢
            rw [q.1, if_pos rfl]
            exact wp_ret ((FC_good b0).1 _) ⟨rfl, _, q.2, oth2⟩
          · simp only [if_neg c8] at q ⊢
            obtain ⟨q3, q4⟩ := q
            rw [c25] at q4
            generalize hC4 : up2 (up2 (upR (up2 (up2 C 24 2 en) 24 4 (lk + 1)) 25 (siX A nx en s (C 25))) 24 2 0) 24 3 (nd A nx 4 + (s - en)) = C4 at q4
            have L4 := q4.lay
            have o4 : ∀ p, p ≠ 24 → p ≠ 25 → C4 p = C p := fun p a1 a2 => by
              funext i
              rw [← hC4, up2_o a1, up2_o a1, upR_o a2, up2_o a1, up2_o a1]
            have t4 : C4 25 = siX A nx en s (C 25) := by
              funext i
              rw [← hC4, up2_o (by decide), up2_o (by decide), upR_s]
            have x2 : C4 24 2 = 0 := by rw [← hC4, up2_j (by decide), up2_s]
            have x3 : C4 24 3 = nd A nx 4 + (s - en) := by rw [← hC4, up2_s]
            have x4 : C4 24 4 = lk + 1 := by rw [← hC4, up2_j (by decide), up2_j (by decide), upR_o (by decide), up2_s]
            have t40 : C4 25 0 = nd A nx 5 := by
              rw [t4]
              unfold siX
              rw [if_pos (by omega)]
            have eabs := ab_tl (A := A) l2
            have sg : cps [] (seg (C4 25) 0 (nd A nx 4 + (s - en) - 0)) = cps [] (tl A nx) ++ cs := by
              rw [t4, Nat.sub_zero, seg_si, cps_ah _ r3.2 r4, hcs]
            have ln1 : 2 * (cps [] (tl A nx)).length ≤ nd A nx 4 + 1 := by
              have := cps_len (tl A nx) []
              have e : (tl A nx).length = nd A nx 4 := seg_len _ _ _
              rw [e] at this
              simpa using this
            have ln2 : (cps [] (tl A nx) ++ cs).length = (cps [] (tl A nx)).length + cs.length := List.length_append
            have go2 : ∀ (z : Nat), z < 64 → wp (FC b0) ρ (ltb (nI j + Int32.ofInt 1) (fun y63 => L_X9_walk_47 b0 fu f (b0 + 24) (nI (b2n fo)) (nI z) y63 ρ)) (fun v τ => v = iz (wk A fo w z (lk + 1) (cps [] (tl A nx) ++ cs)) ∧ ∃ C', CM b0 τ C' D ∧ ∀ p, p ≠ 24 → p ≠ 25 → C' p = C p) := by
              intro z hz
              rw [ltb_def, ofi]
              have y := ih f z (lk + 1) (nd A nx 4 + (s - en)) 0 (j + 1) ρ C4 q4 (ci_o hc (o4 10 (by decide) (by decide)) (o4 15 (by decide) (by decide)) (o4 16 (by decide) (by decide)) (o4 17 (by decide) (by decide))) (VW_o hV (o4 10 (by decide) (by decide)) (o4 11 (by decide) (by decide))) x2 x3 x4 (by omega) (by omega) (by omega) hz (fun i hi => by
                rw [t4]
                unfold siX
                by_cases a1 : i < nd A nx 4
                · rw [if_pos a1]
                  exact (l4 i a1).2
                · rw [if_neg a1, if_pos hi]
                  exact hb _ (by omega)) (by rw [sg, ln2]; omega) (by rw [sg, ln2]; omega) (by rw [sg, ln2]; omega)
              rw [sg] at y
              refine wp_mono y ?_
              intro v ρ' _ ⟨y1, C', y2, y3⟩
              exact ⟨y1, C', y2, fun p a1 a2 => by rw [y3 p a1 a2, o4 p a1 a2]⟩
            have ck0 : ∀ (k : Option (Int32 × tM)), ckI 0 760 k = k := fun k => ckI_n (x := 0) (by omega) (by omega)
            rw [q3, if_neg (by decide), ckC_24 L4, osm_p (rfC_24_1 L4), ckC_25 L4, ck0, show (0 : Int32).toNatClampNeg = 0 from rfl, cd_25 q4.ca, t40]
            have b := sb_47 (show nd A nx 5 < 256 by have := (l4 0 (by omega)).2; rw [show 5 + 0 = 5 from rfl] at this; omega)
            by_cases ca : nd A nx 5 = 47
            · rw [if_pos (b.1.mpr ca), eabs, ca, if_pos (by decide)]
              exact go2 0 (by omega)
            · rw [if_neg (fun r => ca (b.1.mp r)), eabs, if_neg (by simp [ca])]
              exact go2 d hd
        have w144 : ∀ (il : Nat), (il = 0 ∨ il = 1) → (il = 1 ↔ cs = []) → wp (FC b0) σ2 (J_X9_walk_144 b0 fu (L_X9_walk_47 b0 fu f) (b0 + 24) (nI (b2n fo)) (nI d) (nI j) (nI nx) (nI il) σ2) (fun v τ => v = iz (if nd A nx 0 = 3 ∧ (cs ≠ [] ∨ fo = true) then (if lk = 8 then -8 else wk A fo w (if ab (tl A nx) then 0 else d) (lk + 1) (cps [] (tl A nx) ++ cs)) else wk A fo w nx lk cs) ∧ ∃ C', CM b0 τ C' D ∧ ∀ p, p ≠ 24 → p ≠ 25 → C' p = C p) := by
          intro il hil1 hil2
          unfold J_X9_walk_144
          rw [ckC_24 L2, osm_p (rfC_24_0 L2), ckC_18 L2, kind_c q2.ca hnx, cll_some, kn]
          rw [kn] at kb
          by_cases c3 : nd A nx 0 = 3
          · rw [if_pos (show nI (nd A nx 0) = 3 by rw [c3]; rfl)]
            rcases hil1 with rfl | rfl
            · rw [if_pos (show nI 0 = 0 from rfl), if_pos ⟨c3, Or.inl (fun r => by have := hil2.mpr r; omega)⟩]
              exact w175 c3
            · rw [if_neg (show ¬ nI 1 = 0 by decide)]
              cases fo with
              | false =>
                rw [if_pos (show nI (b2n false) = 0 from rfl), if_neg (fun r => by rcases r.2 with z | z; exact z (hil2.mp rfl); cases z)]
                exact w168
              | true =>
                rw [if_neg (show ¬ nI (b2n true) = 0 by decide), if_pos ⟨c3, Or.inr rfl⟩]
                exact w175 c3
          · rw [if_neg (show ¬ nI (nd A nx 0) = 3 from fun r => c3 ((nI_eq (a := nd A nx 0) (b := 3) (by omega) (by omega)).mp r)), if_neg (fun r => c3 r.1)]
            exact w168
        rw [ckC_24 L2, cf_24_2 q2.ca, up2_s, esl, cll_some, ckC_24 L2, cf_24_3 q2.ca, up2_j (by decide), e3, if_t (by omega) (by omega)]
        by_cases cl : k3 < s
        · rw [if_pos cl]
          exact w144 0 (Or.inl rfl) ⟨fun r => by omega, fun r => by have := isL.mpr r; omega⟩
        · rw [if_neg cl]
          exact w144 1 (Or.inr rfl) ⟨fun _ => isL.mp (by omega), fun _ => rfl⟩
      have stop : ∀ (e : Int) (v : Int32), v = iz e → ¬ (0 : Int32) ≤ v → wp (FC b0) σ2 (if (0 : Int32) ≤ v then (ckO b0 σ2 (b0 + 24) 9 (cll (m_X9_endOfSlashes b0 fu (b0 + 24) (tI σ2 (b0 + 24) 2) σ2) (fun v47 ρ48 => ckO b0 ρ48 (b0 + 24) 9 (if v47 < tI ρ48 (b0 + 24) 3 then J_X9_walk_144 b0 fu (L_X9_walk_47 b0 fu f) (b0 + 24) (nI (b2n fo)) (nI d) (nI j) v 0 ρ48 else J_X9_walk_144 b0 fu (L_X9_walk_47 b0 fu f) (b0 + 24) (nI (b2n fo)) (nI d) (nI j) v 1 ρ48)))) else some (v, σ2)) (fun v τ => v = iz e ∧ ∃ C', CM b0 τ C' D ∧ ∀ p, p ≠ 24 → p ≠ 25 → C' p = C p) := by
        intro e v h1 h2
        rw [if_neg h2]
        exact wp_ret ((FC_good b0).1 _) ⟨h1, _, q2, oth2⟩
      show wp (FC b0) σ2 _ (fun v τ => v = iz (if nd A d 0 ≠ 2 then -3 else if 28 < c.length then -7 else if c = [46] then wk A fo w d lk cs else if c = [46, 46] then wk A fo w (nd A d 3) lk cs
        else if eAll A d ≤ fA A d (fun i => c.getD i 0) c.length then -1
        else if nd A (eN A d (fA A d (fun i => c.getD i 0) c.length)) 0 = 3 ∧ (cs ≠ [] ∨ fo = true) then
          (if lk = 8 then -8 else wk A fo w (if ab (tl A (eN A d (fA A d (fun i => c.getD i 0) c.length))) then 0 else d) (lk + 1) (cps [] (tl A (eN A d (fA A d (fun i => c.getD i 0) c.length))) ++ cs))
        else wk A fo w (eN A d (fA A d (fun i => c.getD i 0) c.length)) lk cs) ∧ _)
      unfold lkR
      by_cases c2 : nd A d 0 = 2
      · obtain ⟨p1, p2, p3⟩ := hV.par d hd c2
        simp only [if_neg (show ¬ nd A d 0 ≠ 2 from fun r => r c2)]
        by_cases d1 : c = [46]
        · simp only [if_pos d1, if_neg (show ¬ 28 < c.length by rw [d1]; decide)]
          rw [iz_n, if_pos (iz_neg (by omega))]
          have z := step d hd
          simp only [if_neg (show ¬ (nd A d 0 = 3 ∧ (cs ≠ [] ∨ fo = true)) from fun r => by have := r.1; omega)] at z
          exact z
        · simp only [if_neg d1]
          by_cases d2 : c = [46, 46]
          · simp only [if_pos d2, if_neg (show ¬ 28 < c.length by rw [d2]; decide)]
            rw [iz_n, if_pos (iz_neg (by omega))]
            have z := step (nd A d 3) p2
            simp only [if_neg (show ¬ (nd A (nd A d 3) 0 = 3 ∧ (cs ≠ [] ∨ fo = true)) from fun r => p3 r.1)] at z
            exact z
          · simp only [if_neg d2]
            by_cases d3 : 28 < c.length
            · simp only [if_pos d3]
              exact stop (-7) _ rfl (by decide)
            · simp only [if_neg d3]
              by_cases d4 : eAll A d ≤ fA A d (fun i => c.getD i 0) c.length
              · simp only [if_pos d4]
                exact stop (-1) _ rfl (by decide)
              · simp only [if_neg d4]
                have g := (hV.ent d (fA A d (fun i => c.getD i 0) c.length) hd c2 (by omega))
                have g3 : eN A d (fA A d (fun i => c.getD i 0) c.length) ≠ 64 := by
                  have := sr_is (fP A d (fun i => c.getD i 0) c.length) (eAll A d) 0 (by unfold fA at d4; omega)
                  have this : fP A d (fun i => c.getD i 0) c.length (fA A d (fun i => c.getD i 0) c.length) = true := this
                  unfold fP at this
                  intro r
                  rw [r] at this
                  simp at this
                have g4 := (g.2 g3).1
                rw [iz_n, if_pos (iz_neg (by omega))]
                exact step _ g4
      · simp only [if_pos (show nd A d 0 ≠ 2 from c2)]
        exact stop (-3) _ rfl (by decide)
    · rw [if_neg c0, show s - k1 = 0 by omega]
      exact wp_ret ((FC_good b0).1 _) ⟨(iz_n d).symm, _, q1, oth1⟩
end WE
