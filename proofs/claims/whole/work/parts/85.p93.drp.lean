/-! ===== PURE: the class's Tree: drop, resize ===== -/
def deC (C : tS) (n w : Nat) : tS := if zfC C (nwC C n w % 2048) 0 then relC (snC C n w 0) (nwC C n w % 2048) true else C
def dr1 (C : tS) (n i : Nat) : tS := up2 (relC (spC C n i 0) (ptC C n i % 2048) (kiC (spC C n i 0) n == 2)) 19 n 1
def dr2 (C : tS) (n i : Nat) : tS := if zfC C (tbC C n i % 2048) 0 then deC (relC (swoC C (nwC C n 10 % 2048) ((i - 40) / 32) 0) (tbC C n i % 2048) true) n 10 else C
def drT (C : tS) (n i : Nat) : tS := if ptC C n i = 0 then C else if i < 8 then dr1 C n i else if i < 40 then deC (dr1 C n i) n 9 else dr2 (dr1 C n i) n i
def zbC (C : tS) (n e : Nat) : tS := if ptC C n (e / 256) % 2048 = 0 ∨ zfC C (ptC C n (e / 256) % 2048) (e % 256) = true then C else soiC (spnC (ptC C n (e / 256) % 2048) 0 (e % 256) (256 - e % 256) C) (ptC C n (e / 256) % 2048)
def drL (n l : Nat) : Nat → tS → tS
  | 0, C => C
  | m + 1, C => drL n l m (drT C n (l + m))
def re1 (C : tS) (n s : Nat) : tS := shC C n (kiC C n) (naC C n) (prC C n) s
def reC (C : tS) (n s : Nat) : tS := if s = szC C n then re1 C n s else drL n ((s + 255) / 256) ((szC C n - 1) / 256 + 1 - (s + 255) / 256) (zbC (up2 (re1 C n s) 19 n 1) n (if szC C n < s then szC C n else s))
section DT
variable {b0 fu : Nat} {σ τ : tM} {C : tS} {D : tD}
theorem ci_rvk {c : Nat} (hc : ci C) (h0 : 0 < c) (h1 : c < C 10 7) : ci (rvkC C c) := by
  have c2 := hc.1.2.1
  have r0 : ci (rv0 C c) := by
    unfold rv0
    split
    · exact hc
    · rename_i e
      obtain ⟨⟨a1, a2, a3⟩, ⟨a4, a5, a6⟩, a7⟩ := hc
      have g : ∀ q, q ≠ 11 → up2 (up2 C 15 c 0) 10 11 (C 10 11 - 1) 10 q = C 10 q := fun q hq => by rw [up2_j hq, up2_o (by decide)]
      have g15 : ∀ k, up2 (up2 C 15 c 0) 10 11 (C 10 11 - 1) 15 k = if k = c then 0 else C 15 k := fun k => by
        rw [up2_o (by decide)]
        by_cases q : k = c
        · rw [if_pos q, q, up2_s]
        · rw [if_neg q, up2_j q]
      have go : ∀ p, p ≠ 10 → p ≠ 15 → up2 (up2 C 15 c 0) 10 11 (C 10 11 - 1) p = C p := fun p h1 h2 => by rw [up2_rown h1, up2_rown h2]
      have t := cn_off (p := fun k => C 15 k != 0) (q := fun k => up2 (up2 C 15 c 0) 10 11 (C 10 11 - 1) 15 k != 0) (x := c) (by simp [e]) (by show (_ != 0) = false; rw [g15, if_pos rfl]; rfl) 2034 0 (Nat.zero_le _) (by omega) (fun i _ _ hi => by rw [g15, if_neg hi])
      refine ⟨⟨by rw [g 7 (by decide)]; exact a1, by rw [g 7 (by decide)]; exact a2, by rw [g 8 (by decide)]; exact a3⟩, ⟨?_, ?_, ?_⟩, fun k hk => ?_⟩
      · rw [up2_s, t, a4]
      · rw [g 12 (by decide), go 16 (by decide) (by decide)]
        exact a5
      · rw [g 13 (by decide), go 17 (by decide) (by decide)]
        exact a6
      · rw [g 7 (by decide)] at hk
        rw [go 16 (by decide) (by decide), go 17 (by decide) (by decide), g15]
        refine ⟨?_, (a7 k hk).2⟩
        split
        · rfl
        · exact (a7 k hk).1
  have e7 : rv0 C c 10 7 = C 10 7 := by
    unfold rv0
    split
    · rfl
    · rw [up2_j (by decide), up2_o (by decide)]
  unfold rvkC
  generalize rv0 C c = X at *
  split
  · rename_i e
    obtain ⟨⟨a1, a2, a3⟩, ⟨a4, a5, a6⟩, a7⟩ := r0
    have g : ∀ q, q ≠ 12 → up2 (up2 X 16 c 1) 10 12 (X 10 12 + 1) 10 q = X 10 q := fun q hq => by rw [up2_j hq, up2_o (by decide)]
    have g16 : ∀ k, up2 (up2 X 16 c 1) 10 12 (X 10 12 + 1) 16 k = if k = c then 1 else X 16 k := fun k => by
      rw [up2_o (by decide)]
      by_cases q : k = c
      · rw [if_pos q, q, up2_s]
      · rw [if_neg q, up2_j q]
    have go : ∀ p, p ≠ 10 → p ≠ 16 → up2 (up2 X 16 c 1) 10 12 (X 10 12 + 1) p = X p := fun p h1 h2 => by rw [up2_rown h1, up2_rown h2]
    have t := cn_on (p := fun k => X 16 k != 0) (q := fun k => up2 (up2 X 16 c 1) 10 12 (X 10 12 + 1) 16 k != 0) (x := c) (by simp [e]) (by show (_ != 0) = true; rw [g16, if_pos rfl]; rfl) 2034 0 (Nat.zero_le _) (by omega) (fun i _ _ hi => by rw [g16, if_neg hi])
    refine ⟨⟨by rw [g 7 (by decide)]; exact a1, by rw [g 7 (by decide)]; exact a2, by rw [g 8 (by decide)]; exact a3⟩, ⟨?_, ?_, ?_⟩, fun k hk => ?_⟩
    · rw [g 11 (by decide), go 15 (by decide) (by decide)]
      exact a4
    · rw [up2_s, t, a5]
    · rw [g 13 (by decide), go 17 (by decide) (by decide)]
      exact a6
    · rw [g 7 (by decide)] at hk
      rw [go 15 (by decide) (by decide), go 17 (by decide) (by decide), g16, if_neg (by omega)]
      exact a7 k hk
  · exact r0
theorem rvk_o {c p : Nat} (h1 : p ≠ 10) (h2 : p ≠ 15) (h3 : p ≠ 16) : rvkC C c p = C p := by
  have e : rv0 C c p = C p := by
    unfold rv0
    split
    · rfl
    · rw [up2_rown h1, up2_rown h2]
  unfold rvkC
  split
  · rw [up2_rown h1, up2_rown h3, e]
  · exact e
theorem rvk_10 {c q : Nat} (h1 : q ≠ 11) (h2 : q ≠ 12) : rvkC C c 10 q = C 10 q := by
  have e : rv0 C c 10 q = C 10 q := by
    unfold rv0
    split
    · rfl
    · rw [up2_j h1, up2_o (by decide)]
  unfold rvkC
  split
  · rw [up2_j h2, up2_o (by decide), e]
  · exact e
theorem cle_o {c p : Nat} (h1 : p ≠ 10) (h2 : p ≠ 17) : cleC C c p = C p := by
  unfold cleC
  split
  · rw [up2_rown h1, up2_rown h2]
  · rfl
theorem cle_10 {c q : Nat} (h : q ≠ 13) : cleC C c 10 q = C 10 q := by
  unfold cleC
  split
  · rw [up2_j h, up2_o (by decide)]
  · rfl
/-- what a release leaves as it was -/
theorem rel_10 {c q : Nat} {mt : Bool} (h1 : q ≠ 10) (h2 : q ≠ 11) (h3 : q ≠ 12) (h4 : q ≠ 13) : relC C c mt 10 q = C 10 q := by
  unfold relC
  split
  · show (if mt = true then rvkC _ c else _) 10 q = _
    split
    · rw [rvk_10 h2 h3, cle_10 h4, tou_10 h2, mrk_o (by decide), up2_j h1, up2_o (by decide)]
    · rw [cle_10 h4, tou_10 h2, mrk_o (by decide), up2_j h1, up2_o (by decide)]
  · rfl
theorem ci_rel {c : Nat} {mt : Bool} (hc : ci C) : ci (relC C c mt) := by
  unfold relC
  split
  · rename_i e
    have k1 : ci (cleC (touC (mrkC (up2 (up2 C 12 c (C 10 16 + 1)) 10 10 (C 10 10 + 1)) c false) 1) c) := ci_cle (ci_tou (ci_mrk (ci_cong hc (fun q hq => by rw [up2_j (by omega), up2_o (by decide)]) (by rw [up2_rown (by decide), up2_rown (by decide)]) (by rw [up2_rown (by decide), up2_rown (by decide)]) (by rw [up2_rown (by decide), up2_rown (by decide)]))))
    show ci (if mt = true then rvkC _ c else _)
    split
    · refine ci_rvk k1 (by omega) ?_
      rw [cle_10 (by decide), tou_10 (by decide), mrk_o (by decide), up2_j (by decide), up2_o (by decide)]
      exact e.2.1
    · exact k1
  · exact hc
theorem sk_rel {c : Nat} {mt : Bool} (hs : sk C) (hg : 1 ≤ C 10 16) : sk (relC C c mt) := by
  unfold relC
  split
  · rename_i e
    obtain ⟨e1, e2, e3⟩ := e
    have k0 : sk (up2 (up2 C 12 c (C 10 16 + 1)) 10 10 (C 10 10 + 1)) := by
      have x12 : ∀ k, up2 (up2 C 12 c (C 10 16 + 1)) 10 10 (C 10 10 + 1) 12 k = if k = c then C 10 16 + 1 else C 12 k := fun k => by
        rw [up2_o (by decide)]
        by_cases q : k = c
        · rw [if_pos q, q, up2_s]
        · rw [if_neg q, up2_j q]
      have x10 : ∀ q, q ≠ 10 → up2 (up2 C 12 c (C 10 16 + 1)) 10 10 (C 10 10 + 1) 10 q = C 10 q := fun q hq => by rw [up2_j hq, up2_o (by decide)]
      obtain ⟨s1, s2, s3, s4⟩ := hs
      refine ⟨?_, ?_, ?_, fun k k1 k2 => ?_⟩
      · rw [x10 9 (by decide), x10 7 (by decide), s1]
        refine cn_congr _ _ (fun i _ _ => ?_)
        rw [x12]
        by_cases q : i = c
        · rw [if_pos q, q, e3]
          have : ¬ C 10 16 + 1 = 1 := by omega
          simp [this]
          omega
        · rw [if_neg q]
      · rw [up2_s, x10 7 (by decide), s2]
        exact (cn_on (p := fun k => decide (1 < C 12 k)) (q := fun k => decide (1 < up2 (up2 C 12 c (C 10 16 + 1)) 10 10 (C 10 10 + 1) 12 k)) (x := c) (by simp [e3]) (by show decide (1 < _) = true; rw [x12, if_pos rfl]; simp; omega) _ _ e1 (by omega) (fun i _ _ hi => by rw [x12, if_neg hi])).symm
      · rw [x10 14 (by decide), x10 7 (by decide)]
        exact s3
      · rw [x10 14 (by decide)] at k2
        rw [x12]
        split
        · omega
        · exact s4 k k1 k2
    have k1 : sk (cleC (touC (mrkC (up2 (up2 C 12 c (C 10 16 + 1)) 10 10 (C 10 10 + 1)) c false) 1) c) := sk_cong (sk_tou (sk_11 k0)) (cle_o (by decide) (by decide)) (fun q hq => cle_10 (by omega))
    show sk (if mt = true then rvkC _ c else _)
    split
    · exact sk_cong k1 (rvk_o (by decide) (by decide) (by decide)) (fun q hq => rvk_10 (by omega) (by omega))
    · exact k1
  · exact hs
/-- all that a release asks for -/
def rk3 (C : tS) : Prop := ci C ∧ sk C ∧ 1 ≤ C 10 16 ∧ C 10 16 < 1000000
theorem rk_rel {c : Nat} {mt : Bool} (h : rk3 C) : rk3 (relC C c mt) := ⟨ci_rel h.1, sk_rel h.2.1 h.2.2.1, by rw [rel_10 (by decide) (by decide) (by decide) (by decide)]; exact h.2.2⟩
theorem rk_sn {n i v : Nat} (h : rk3 C) : rk3 (snC C n i v) := ⟨ci_sn h.1, sk_sn h.2.1, by rw [sn_10 (by decide)]; exact h.2.2⟩
theorem rk_swo {c i v : Nat} (h : rk3 C) : rk3 (swoC C c i v) := ⟨ci_swo h.1, sk_swo h.2.1, by rw [swo_10 (by decide)]; exact h.2.2⟩
theorem rk_sp {n i v : Nat} (h : rk3 C) : rk3 (spC C n i v) := by
  unfold spC
  split
  · exact rk_sn h
  · exact rk_swo h
theorem rk_19 {n v : Nat} (h : rk3 C) : rk3 (up2 C 19 n v) := ⟨ci_19 h.1, sk_cong h.2.1 (up2_rown (by decide)) (fun q _ => up2_o (by decide)), by rw [up2_o (by decide)]; exact h.2.2⟩
theorem rk_de {n w : Nat} (h : rk3 C) : rk3 (deC C n w) := by
  unfold deC
  split
  · exact rk_rel (rk_sn h)
  · exact h
theorem rk_dr1 {n i : Nat} (h : rk3 C) : rk3 (dr1 C n i) := rk_19 (rk_rel (rk_sp h))
theorem rk_dr {n i : Nat} (h : rk3 C) : rk3 (drT C n i) := by
  unfold drT
  split
  · exact h
  · split
    · exact rk_dr1 h
    · split
      · exact rk_de (rk_dr1 h)
      · unfold dr2
        split
        · exact rk_de (rk_rel (rk_swo (rk_dr1 h)))
        · exact rk_dr1 h
theorem dropIfEmpty_c (h : CM b0 σ C D) (hr : rk3 C) {n w : Nat} (hn : n < 64) (hw : w < 16) (hu : 3000 ≤ fu) : wp (FC b0) σ (m_X8_dropIfEmpty b0 fu (b0 + 18) (nI n) (nI w) σ) (fun _ τ => CM b0 τ (deC C n w) D) := by
  have L := h.lay
  have m1 : nwC C n w % 2048 < 2048 := Nat.mod_lt _ (by omega)
  refine wp_grw (FC_good b0) ?_
  unfold J_X8_dropIfEmpty_38 deC
  rw [ckC_18 L, nodeWord_c h.ca hn hw, cll_some, cellOf_c, cll_some, ckC_18 L, osm_p (rfC_18_0 L), ckC_10 L]
  show wp (FC b0) σ (cll (m_X5_isZeroFrom b0 fu (b0 + 10) (nI (nwC C n w % 2048)) (nI 0) σ) _) _
  rw [isZeroFrom_c h.ca hr.1 (by omega) (by omega) (by omega), cll_some]
  cases z : zfC C (nwC C n w % 2048) 0 with
  | false =>
    rw [if_pos (show nI (b2n false) = 0 by decide), if_neg (by decide)]
    exact wp_ret ((FC_good b0).1 _) h
  | true =>
    rw [if_neg (show ¬ nI (b2n true) = 0 by decide), if_pos rfl, ckC_18 L]
    refine wp_bind (FC_good b0) (setNodeWord_c (fu := fu) (V := 0) h hr.1 hn hw (by decide)) ?_
    intro _ ρ q
    have r2 := rk_sn (n := n) (i := w) (v := 0) hr
    rw [ckC_18 q.lay, osm_p (rfC_18_0 q.lay), ckC_10 q.lay]
    refine wp_bind (FC_good b0) (release_c (fu := fu) q r2.1 r2.2.1 (c := nwC C n w % 2048) (by omega) (by have := r2.2.2.2; omega) true) ?_
    intro _ ρ2 q2
    exact wp_ret ((FC_good b0).1 _) q2
theorem drop43 (h : CM b0 σ C D) (hr : rk3 C) {n i g : Nat} (hn : n < 64) (hi : i < 1064) (hg : g < 2048) (hu : 3000 ≤ fu) (mt : Bool) : wp (FC b0) σ (J_X8_drop_43 b0 fu (b0 + 18) (nI n) (nI i) (b0 + 10) (nI g) (nI (b2n mt)) σ) (fun _ τ => CM b0 τ (if i < 8 then up2 (relC C g mt) 19 n 1 else if i < 40 then deC (up2 (relC C g mt) 19 n 1) n 9 else dr2 (up2 (relC C g mt) 19 n 1) n i) D) := by
  unfold J_X8_drop_43 J_X8_drop_124 J_X8_drop_140
  rw [ckC_10 h.lay]
  refine wp_bind (FC_good b0) (release_c (fu := fu) h hr.1 hr.2.1 (c := g) (by omega) (by have := hr.2.2.2; omega) mt) ?_
  intro _ ρ q
  rw [ckC_18 q.lay]
  refine wp_bind (FC_good b0) (noteChange_c (fu := fu) (v := 1) q hn (by omega)) ?_
  intro _ ρ q
  have r2 : rk3 (up2 (relC C g mt) 19 n 1) := rk_19 (rk_rel hr)
  generalize up2 (relC C g mt) 19 n 1 = X at *
  have L := q.lay
  show wp (FC b0) ρ (if nI i < nI 40 then (if nI i < nI 8 then _ else _) else _) _
  rw [if_t (by omega) (by omega), if_t (by omega) (by omega)]
  by_cases c1 : i < 8
  · rw [if_pos (by omega), if_pos c1, if_pos c1]
    exact wp_ret ((FC_good b0).1 _) q
  · rw [if_neg c1, if_neg c1]
    by_cases c2 : i < 40
    · rw [if_pos c2, if_pos c2, ckC_18 L]
      refine wp_bind (FC_good b0) (dropIfEmpty_c (fu := fu) (w := 9) q r2 hn (by omega) hu) ?_
      intro _ ρ2 q2
      exact wp_ret ((FC_good b0).1 _) q2
    · have m1 : tbC X n i % 2048 < 2048 := Nat.mod_lt _ (by omega)
      have m2 : nwC X n 10 % 2048 < 2048 := Nat.mod_lt _ (by omega)
      have e6 : nI i - (40 : Int32) = nI (i - 40) := nI_sb (b := 40) (by omega)
      have e7 : nI (i - 40) / (32 : Int32) = nI ((i - 40) / 32) := nI_dv (d := 32) (by omega) (by omega) (by omega)
      rw [if_neg c2, if_neg c2, ckC_18 L, table_c q.ca hn (by omega) hi, cll_some, cellOf_c, cll_some, ckC_18 L, osm_p (rfC_18_0 L), ckC_10 L]
      show wp (FC b0) ρ (cll (m_X5_isZeroFrom b0 fu (b0 + 10) (nI (tbC X n i % 2048)) (nI 0) ρ) _) _
      rw [isZeroFrom_c q.ca r2.1 (by omega) (by omega) (by omega), cll_some]
      unfold dr2
      cases z : zfC X (tbC X n i % 2048) 0 with
      | false =>
        rw [if_pos (show nI (b2n false) = 0 by decide), if_neg (by decide)]
        exact wp_ret ((FC_good b0).1 _) q
      | true =>
        rw [if_neg (show ¬ nI (b2n true) = 0 by decide), if_pos rfl, ckC_18 L, osm_p (rfC_18_0 L)]
        show wp (FC b0) ρ (cll (m_X8_nodeWord b0 fu (b0 + 18) (nI n) (nI 10) ρ) _) _
        rw [nodeWord_c q.ca hn (by omega), cll_some, cellOf_c, cll_some, ckC_10 L, e6, e7]
        refine wp_bind (FC_good b0) (setWord_c (fu := fu) (V := 0) q r2.1 (by omega) (by omega) (by decide)) ?_
        intro _ ρ3 q3
        have r3 := rk_swo (c := nwC X n 10 % 2048) (i := (i - 40) / 32) (v := 0) r2
        rw [ckC_18 q3.lay, osm_p (rfC_18_0 q3.lay), ckC_10 q3.lay]
        refine wp_bind (FC_good b0) (release_c (fu := fu) q3 r3.1 r3.2.1 (c := tbC X n i % 2048) (by omega) (by have := r3.2.2.2; omega) true) ?_
        intro _ ρ4 q4
        rw [ckC_18 q4.lay]
        refine wp_bind (FC_good b0) (dropIfEmpty_c (fu := fu) (w := 10) q4 (rk_rel r3) hn (by omega) hu) ?_
        intro _ ρ5 q5
        exact wp_ret ((FC_good b0).1 _) q5
theorem drop_c (h : CM b0 σ C D) (hr : rk3 C) {n i : Nat} (hn : n < 64) (hi : i < 1064) (hu : 3000 ≤ fu) : wp (FC b0) σ (m_X8_drop b0 fu (b0 + 18) (nI n) (nI i) σ) (fun _ τ => CM b0 τ (drT C n i) D) := by
  have L := h.lay
  have pl : ptC C n i < 18446744073709551616 := by unfold ptC nwC; split <;> exact cb_11 h.ca _
  refine wp_grw (FC_good b0) ?_
  unfold drT
  rw [ckC_18 L, pointer_c h.ca hn hi, cll_some, lgz pl]
  by_cases c : ptC C n i = 0
  · rw [if_pos c, if_pos c]
    exact wp_ret ((FC_good b0).1 _) h
  · rw [if_neg c, if_neg c, ckC_18 L]
    refine wp_bind (FC_good b0) (setPointer_c (fu := fu) (V := 0) h hr.1 hn hi (by decide)) ?_
    intro _ ρ q
    have k1 := (kna (spC C n i 0) n).1
    rw [ckC_18 q.lay, osm_p (rfC_18_0 q.lay), cellOf_c, cll_some, ckC_18 q.lay, kind_c q.ca hn, cll_some]
    show wp (FC b0) ρ (if nI (kiC (spC C n i 0) n) = nI 2 then _ else _) _
    rw [if_e (by omega) (by omega)]
    unfold dr1
    by_cases c2 : kiC (spC C n i 0) n = 2
    · have := drop43 (fu := fu) q (rk_sp hr) hn hi (Nat.mod_lt (ptC C n i) (show 0 < 2048 by omega)) hu true
      rw [if_pos c2, show (kiC (spC C n i 0) n == 2) = true by simp [c2]]
      exact this
    · have := drop43 (fu := fu) q (rk_sp hr) hn hi (Nat.mod_lt (ptC C n i) (show 0 < 2048 by omega)) hu false
      rw [if_neg c2, show (kiC (spC C n i 0) n == 2) = false by simp [c2]]
      exact this
end DT
