/-! ===== PURE: the reference's walk ===== -/
def iz (x : Int) : Int32 := Int32.ofInt x
theorem iz_n (n : Nat) : iz (n : Int) = nI n := Int32.ofInt_eq_ofNat
/-- all directories have their blocks -/
def dirsOk (A : Nat → Nat → Nat) : Prop := ∀ d, d < 64 → nd A d 0 = 2 → dirOk A d
section RW3
variable {b0 fu : Nat} {σ τ : tM} {A : Nat → Nat → Nat} {N : Nat} {J : tJ}
theorem nd_3 (h : okT A) {g : Nat} (hg : g < 64) : nd A g 3 < 64 := by
  have := h (g * 95 + 3)
  rw [bT_n hg (by omega)] at this
  exact this
theorem seg_txn {g nx s : Nat} {tx : Nat → Nat} (hnx : nx ≤ s) : seg (txn A g nx tx) 0 (nd A g 4 + 1 + (s - nx)) = tl A g ++ 47 :: seg tx nx (s - nx) := by
  rw [show nd A g 4 + 1 + (s - nx) = nd A g 4 + ((s - nx) + 1) by omega, seg_app]
  congr 1
  · exact seg_cong _ _ _ fun i hi => by simp [txn, hi]
  · simp only [seg]
    rw [show txn A g nx tx (0 + nd A g 4) = 47 by simp [txn]]
    congr 1
    refine seg_cong _ _ _ fun i hi => ?_
    unfold txn
    rw [if_neg (by omega), if_neg (by omega)]
    congr 1
    omega
set_option maxHeartbeats 8000000 in
theorem walk_loop (hD : dirsOk A) (hu : 10000 ≤ fu) (fo : Bool) : ∀ w f d lk s tx k σ, RM b0 J σ (up2 A 35 51 s) N → TD b0 σ tx s → k ≤ s → (k < s → tx k ≠ 47) → lk ≤ 8 → s ≤ 120 + 81 * lk → d < 64 → (cps [] (seg tx k (s - k))).length + 42 * (8 - lk) < w → (cps [] (seg tx k (s - k))).length + 42 * (8 - lk) < f →
    wp (FR b0) σ (L_X12_walk_11 b0 fu f (b0 + 35) (nI (b2n fo)) (nI d) (nI lk) (nI k) σ) (fun v τ => v = iz (wk A fo w d lk (cps [] (seg tx k (s - k)))) ∧ ∃ s', RM b0 J τ (up2 A 35 51 s') N) := by
  intro w
  induction w with
  | zero => intro f d lk s tx k σ _ _ _ _ _ _ _ hw; omega
  | succ w ih =>
    intro f d lk s tx k σ h ht hk hk7 hl hs hd hw hf
    obtain ⟨f, rfl⟩ : ∃ q, f = q + 1 := ⟨f - 1, by omega⟩
    have L := h.ra.lay
    have hT : okT A := h.ok
    have hr := h.ra
    have b51 : up2 A 35 51 s 35 51 = s := up2_s _ _ _ _
    have ht' : TD b0 σ tx (up2 A 35 51 s 35 51) := by rw [b51]; exact ht
    unfold L_X12_walk_11
    rw [ltb_def, ckR_35 L, rf_51 hr, b51, if_l (by omega) (by omega)]
    by_cases e0 : s ≤ k
    · rw [if_pos e0, show s - k = 0 by omega]
      refine wp_ret ((FR_good b0).1 _) ⟨?_, s, h⟩
      simp only [seg, cps, wk]
      exact (iz_n d).symm
    · rw [if_neg e0, walk24 hr ht' (by omega) (s - k) k fu (by rw [b51]; omega) (by omega)]
      have hc := cps_hd (m := s - k) (a := k) (by omega) (hk7 (by omega))
      have r1 := sr_le (fun i => tx i == 47) (s - k) k
      rw [show k + (s - k) = s by omega] at hc r1
      generalize hE : sr (fun i => tx i == 47) k (s - k) = en at hc r1 ⊢
      have hs2 := cps_sl tx (s - en) en
      have r2 := sr_le (fun i => tx i != 47) (s - en) en
      have r3 : sr (fun i => tx i != 47) en (s - en) < s → tx (sr (fun i => tx i != 47) en (s - en)) ≠ 47 := fun q => by
        have := sr_is (fun i => tx i != 47) (s - en) en (by omega)
        simpa using this
      rw [show en + (s - en) = s by omega] at hs2 r2
      have hbe := behind_eq hr ht' (by rw [b51]; omega) (k := en) (by rw [b51]; omega) hu
      rw [b51] at hbe
      generalize hX : sr (fun i => tx i != 47) en (s - en) = nx at hs2 r2 r3 hbe
      rw [hs2] at hc
      generalize hcs : cps [] (seg tx nx (s - nx)) = cs at hc
      have hen : k < en := by
        by_cases q : k = en
        · have := sr_is (fun i => tx i == 47) (s - k) k (by omega)
          rw [hE, ← q] at this
          exact absurd (by simpa using this) (hk7 (by omega))
        · omega
      rw [hc] at hw hf ⊢
      simp only [List.length_cons] at hw hf
      have hcl : (seg tx k (en - k)).length = en - k := seg_len _ _ _
      have lt1 : ∀ i, i < s → tx i < 128 := fun i hi => by obtain ⟨t, u, -, -, -, t4⟩ := ht; exact (t4 i hi).2
      unfold J_X12_walk_51
      rw [ltb_def, nI_sb (by omega), ckR_35 L, hbe, cll_some, ckR_35 L]
      show wp (FR b0) σ (cll (m_X12_node b0 fu (b0 + 35) (nI d) (nI 0) σ) _) _
      have b0d : nd A d 0 < 2147483648 := bd_36 hr _
      rw [node_nd hr hd (by omega), cll_some]
      show wp (FR b0) σ (if nI (nd A d 0) = nI 2 then (if nI (en - k) ≤ nI 28 then (if nI (en - k) = nI 1 then _ else _) else _) else _) _
      rw [if_e b0d (by omega), if_l (by omega) (by omega), if_e (by omega) (by omega)]
      unfold wk
      by_cases e2 : nd A d 0 = 2
      · rw [if_pos e2, if_neg (show ¬ (nd A d 0 ≠ 2) from fun q => q e2), hcl]
        by_cases e28 : en - k ≤ 28
        · rw [if_pos e28, if_neg (show ¬ 28 < en - k by omega)]
          obtain ⟨t, u, t1, t2, t3, t4⟩ := id ht
          obtain ⟨kt1, kt2⟩ := ck65 L (t := t) (by omega)
          have c0 := t4 k (by omega)
          -- to go on behind a name, with another node
          have go : ∀ d', d' < 64 → wp (FR b0) σ (L_X12_walk_11 b0 fu f (b0 + 35) (nI (b2n fo)) (nI d') (nI lk) (nI nx) σ) (fun v τ => v = iz (wk A fo w d' lk cs) ∧ ∃ s', RM b0 J τ (up2 A 35 51 s') N) := fun d' hd' => by
            have := ih f d' lk s tx nx σ h ht (by omega) r3 hl hs hd' (by rw [hcs]; omega) (by rw [hcs]; omega)
            rw [hcs] at this
            exact this
          have c46 : seg tx k (en - k) = [46] ↔ en - k = 1 ∧ tx k = 46 := by
            constructor
            · intro q
              have h1 : (seg tx k (en - k)).length = 1 := by rw [q]; rfl
              rw [hcl] at h1
              rw [h1] at q
              simp [seg] at q
              exact ⟨h1, q⟩
            · rintro ⟨q1, q2⟩
              rw [q1]; simp [seg, q2]
          have c4646 : seg tx k (en - k) = [46, 46] ↔ en - k = 2 ∧ tx k = 46 ∧ tx (k + 1) = 46 := by
            constructor
            · intro q
              have h1 : (seg tx k (en - k)).length = 2 := by rw [q]; rfl
              rw [hcl] at h1
              rw [h1] at q
              simp [seg] at q
              exact ⟨h1, q⟩
            · rintro ⟨q1, q2, q3⟩
              rw [q1]; simp [seg, q2, q3]
          -- the name is looked for
          have look : ∀ (nd1 : ¬ seg tx k (en - k) = [46]) (nd2 : ¬ seg tx k (en - k) = [46, 46]), wp (FR b0) σ (J_X12_walk_151 b0 fu (L_X12_walk_11 b0 fu f) (b0 + 35) (nI (b2n fo)) (nI d) (nI lk) (nI k) (nI (en - k)) (nI nx) (nI 0) (nI 0) σ) (fun v τ => v = iz (if seg tx k (en - k) = [46] then wk A fo w d lk cs else if seg tx k (en - k) = [46, 46] then wk A fo w (nd A d 3) lk cs else if eAll A d ≤ fA A d (fun i => (seg tx k (en - k)).getD i 0) (en - k) then -1 else if nd A (eN A d (fA A d (fun i => (seg tx k (en - k)).getD i 0) (en - k))) 0 = 3 ∧ (cs ≠ [] ∨ fo = true) then (if lk = 8 then -8 else wk A fo w (if ab (tl A (eN A d (fA A d (fun i => (seg tx k (en - k)).getD i 0) (en - k)))) then 0 else d) (lk + 1) (cps [] (tl A (eN A d (fA A d (fun i => (seg tx k (en - k)).getD i 0) (en - k)))) ++ cs)) else wk A fo w (eN A d (fA A d (fun i => (seg tx k (en - k)).getD i 0) (en - k))) lk cs) ∧ ∃ s', RM b0 J τ (up2 A 35 51 s') N) := by
            intro nd1 nd2
            rw [if_neg nd1, if_neg nd2]
            have hdo := hD d hd e2
            have ec : fA A d (fun i => (seg tx k (en - k)).getD i 0) (en - k) = fA A d (fun i => tx (k + i)) (en - k) := fA_cong fun i hi => seg_get tx _ _ i hi
            rw [ec]
            have ea : eAll A d < 8512 := by have := hdo.2.1; unfold eAll; omega
            have hNm : nmAt b0 σ t k (fun i => tx (k + i)) (en - k) := ⟨⟨2048, kt1, by omega, by omega⟩, kt2, fun i hi => t4 (k + i) (by omega)⟩
            have hfe : m_X12_find b0 fu (b0 + 35) (nI d) t (nI k) (nI (en - k)) σ = some (if fA A d (fun i => tx (k + i)) (en - k) < eAll A d then nI (fA A d (fun i => tx (k + i)) (en - k)) else -1, σ) := find_eq (A := up2 A 35 51 s) hr h.ok hdo (by omega) hNm hu
            unfold J_X12_walk_151
            rw [if_pos (show nI 0 = 0 from rfl), if_pos (show nI 0 = 0 from rfl), ckR_35 L, osm_p t1, hfe, cll_some]
            generalize hfa : fA A d (fun i => tx (k + i)) (en - k) = fa
            by_cases ef : fa < eAll A d
            · rw [if_pos ef, if_neg (show ¬ eAll A d ≤ fa by omega)]
              show wp (FR b0) σ (if nI 0 ≤ nI fa then _ else _) _
              rw [if_l (by omega) (by omega), if_pos (Nat.zero_le _), ckR_35 L]
              have fP1 : fP A d (fun i => tx (k + i)) (en - k) fa = true := by
                have := sr_is (fP A d (fun i => tx (k + i)) (en - k)) (eAll A d) 0 (by rw [show sr (fP A d (fun i => tx (k + i)) (en - k)) 0 (eAll A d) = fa from hfa]; omega)
                rw [show sr (fP A d (fun i => tx (k + i)) (en - k)) 0 (eAll A d) = fa from hfa] at this
                exact this
              have g64 : eN A d fa < 64 := by
                have := eN_lt hT d fa
                have : eN A d fa ≠ 64 := by
                  unfold fP at fP1
                  simp at fP1
                  exact fP1.1
                omega
              have f8 : fa / 8 < nd A d 1 / 256 := by unfold eAll at ef; omega
              have hen2 : m_X12_entryNode b0 fu (b0 + 35) (nI d) (nI fa) σ = some (nI (eN A d fa), σ) := entryNode_eq (A := up2 A 35 51 s) hr h.ok hd (by have := hdo.2.1; omega) (hdo.2.2 _ f8)
              rw [hen2, cll_some, ckR_35 L]
              generalize hg : eN A d fa = g at g64
              show wp (FR b0) σ (cll (m_X12_node b0 fu (b0 + 35) (nI g) (nI 0) σ) _) _
              have b0g : nd A g 0 < 2147483648 := bd_36 hr _
              rw [node_nd hr g64 (by omega), cll_some]
              show wp (FR b0) σ (if nI (nd A g 0) = nI 3 then ckO b0 σ (b0 + 35) 11 (if nI nx < tI σ (b0 + 35) 51 then _ else _) else _) _
              rw [if_e b0g (by omega), ckR_35 L, rf_51 hr, b51, if_t (by omega) (by omega)]
              have nonl : wp (FR b0) σ (J_X12_walk_284 b0 fu (L_X12_walk_11 b0 fu f) (b0 + 35) (nI (b2n fo)) (nI lk) (nI nx) (nI g) σ) (fun v τ => v = iz (wk A fo w g lk cs) ∧ ∃ s', RM b0 J τ (up2 A 35 51 s') N) := go g g64
              have csn : nx < s ↔ cs ≠ [] := by
                constructor
                · intro q
                  rw [← hcs, cps_hd (by omega) (r3 q)]
                  exact List.cons_ne_nil _ _
                · intro q
                  by_cases z : nx < s
                  · exact z
                  · exfalso
                    apply q
                    rw [← hcs, show s - nx = 0 by omega]
                    rfl
              by_cases e3 : nd A g 0 = 3
              · rw [if_pos e3]
                have lnk : wp (FR b0) σ (J_X12_walk_241 b0 fu (L_X12_walk_11 b0 fu f) (b0 + 35) (nI (b2n fo)) (nI d) (nI lk) (nI nx) (nI g) σ) (fun v τ => v = iz (if lk = 8 then -8 else wk A fo w (if ab (tl A g) then 0 else d) (lk + 1) (cps [] (tl A g) ++ cs)) ∧ ∃ s', RM b0 J τ (up2 A 35 51 s') N) := by
                  unfold J_X12_walk_241
                  rw [ltb_def, ofi]
                  show wp (FR b0) σ (if nI (lk + 1) = nI 9 then _ else _) _
                  rw [if_e (by omega) (by omega)]
                  by_cases e8 : lk = 8
                  · rw [if_pos (by omega), if_pos e8]
                    exact wp_ret ((FR_good b0).1 _) ⟨rfl, s, h⟩
                  · rw [if_neg (by omega), if_neg e8, ckR_35 L]
                    refine wp_bind (FR_good b0) (expand_wp h ht g64 (by omega) (by omega) hu) fun _ ρ hq => ?_
                    obtain ⟨h2, ht2⟩ := hq
                    have L2 := h2.ra.lay
                    have n4 := nd_4 hT g64
                    have hsg := seg_txn (A := A) (g := g) (tx := tx) (s := s) (nx := nx) (by omega)
                    have hlen : (cps [] (tl A g)).length ≤ 40 := by
                      have := cps_len (tl A g) []
                      simp at this
                      have e9 : (tl A g).length = nd A g 4 := seg_len _ _ _
                      omega
                    have hcomp : cps [] (seg (txn A g nx tx) 0 (nd A g 4 + 1 + (s - nx))) = cps [] (tl A g) ++ cs := by rw [hsg, cps_ap, hcs]
                    obtain ⟨t', u', q1, q2, q3, q4⟩ := id ht2
                    obtain ⟨kq1, kq2⟩ := ck65 L2 (t := t') (by omega)
                    have z0 := q4 0 (by omega)
                    rw [ckR_35 L2, osm_p q1, ckR_p kq1 kq2]
                    show wp (FR b0) ρ (ckI (nI 0) 2048 (if tI ρ t' 0 = nI 47 then _ else _)) _
                    rw [ckI_n (by omega) (by omega), z0.1, if_e (by omega) (by omega)]
                    have hab : ab (tl A g) = true ↔ txn A g nx tx 0 = 47 := by
                      unfold tl txn
                      by_cases z : nd A g 4 = 0
                      · simp [z, seg, ab]
                      · obtain ⟨q, hq⟩ : ∃ q, nd A g 4 = q + 1 := ⟨nd A g 4 - 1, by omega⟩
                        rw [hq]
                        simp [seg, ab]
                    have key : ∀ d', d' < 64 → wp (FR b0) ρ (J_X12_walk_274 b0 fu (L_X12_walk_11 b0 fu f) (b0 + 35) (nI (b2n fo)) (nI d') (nI (lk + 1)) ρ) (fun v τ => v = iz (wk A fo w d' (lk + 1) (cps [] (tl A g) ++ cs)) ∧ ∃ s', RM b0 J τ (up2 A 35 51 s') N) := by
                      intro d' hd'
                      unfold J_X12_walk_274 J_X12_walk_291
                      have e51 : up2 A 35 51 (nd A g 4 + 1 + (s - nx)) 35 51 = nd A g 4 + 1 + (s - nx) := up2_s _ _ _ _
                      have hb2 := behind_eq h2.ra (by rw [e51]; exact ht2) (by rw [e51]; omega) (k := 0) (Nat.zero_le _) hu
                      rw [e51] at hb2
                      rw [ckR_35 L2]
                      show wp (FR b0) ρ (cll (m_X12_behind b0 fu (b0 + 35) (nI 0) ρ) _) _
                      rw [hb2, cll_some]
                      have r5 := sr_le (fun i => txn A g nx tx i != 47) (nd A g 4 + 1 + (s - nx) - 0) 0
                      have r6 : sr (fun i => txn A g nx tx i != 47) 0 (nd A g 4 + 1 + (s - nx) - 0) < nd A g 4 + 1 + (s - nx) → txn A g nx tx (sr (fun i => txn A g nx tx i != 47) 0 (nd A g 4 + 1 + (s - nx) - 0)) ≠ 47 := fun q => by
                        have := sr_is (fun i => txn A g nx tx i != 47) (nd A g 4 + 1 + (s - nx) - 0) 0 (by omega)
                        simpa using this
                      have r7 := cps_sl (txn A g nx tx) (nd A g 4 + 1 + (s - nx) - 0) 0
                      rw [Nat.zero_add, Nat.sub_zero, hcomp] at r7
                      rw [Nat.sub_zero] at r5 r6 ⊢
                      have hL : (cps [] (tl A g) ++ cs).length = (cps [] (tl A g)).length + cs.length := List.length_append
                      have := ih f d' (lk + 1) _ _ _ ρ h2 ht2 (by omega) r6 (by omega) (by omega) hd' (by rw [← r7]; omega) (by rw [← r7]; omega)
                      rw [← r7] at this
                      exact this
                    by_cases e47 : txn A g nx tx 0 = 47
                    · rw [if_pos e47, if_pos (hab.mpr e47)]
                      exact key 0 (by omega)
                    · rw [if_neg e47, if_neg (fun q => e47 (hab.mp q))]
                      exact key d hd
                by_cases en2 : nx < s
                · rw [if_pos en2, if_pos ⟨e3, Or.inl (csn.mp en2)⟩]
                  exact lnk
                · rw [if_neg en2]
                  unfold J_X12_walk_237
                  cases fo with
                  | false =>
                    rw [if_pos (show nI (b2n false) = 0 from rfl), if_neg (fun q => q.2.elim (fun z => en2 (csn.mpr z)) (fun z => by cases z))]
                    exact nonl
                  | true =>
                    rw [if_neg (show ¬ nI (b2n true) = 0 by decide), if_pos ⟨e3, Or.inr rfl⟩]
                    exact lnk
              · rw [if_neg e3, if_neg (fun q => e3 q.1)]
                exact nonl
            · rw [if_neg ef, if_pos (show eAll A d ≤ fa by omega), if_neg (show ¬ (0 : Int32) ≤ -1 by decide)]
              exact wp_ret ((FR_good b0).1 _) ⟨rfl, s, h⟩
          by_cases e1 : en - k = 1
          · rw [if_pos e1, ckR_35 L, osm_p t1, ckR_p kt1 kt2, ckI_n (by omega) (by omega), nI_cl (by omega), c0.1]
            show wp (FR b0) σ (if nI (tx k) = nI 46 then _ else _) _
            rw [if_e (by omega) (by omega)]
            unfold J_X12_walk_107 J_X12_walk_111 J_X12_walk_112 J_X12_walk_150
            rw [show nI (en - k) = nI 1 by rw [e1], if_neg (show ¬ nI 1 = 2 by decide)]
            by_cases e46 : tx k = 46
            · rw [if_pos e46, if_pos (c46.mpr ⟨e1, e46⟩)]
              exact go d hd
            · rw [if_neg e46]
              have := look (fun q => e46 (c46.mp q).2) (fun q => by have := (c4646.mp q).1; omega)
              rw [show nI (en - k) = nI 1 by rw [e1]] at this
              exact this
          · rw [if_neg e1]
            unfold J_X12_walk_111 J_X12_walk_112 J_X12_walk_150
            show wp (FR b0) σ (if nI (en - k) = nI 2 then _ else _) _
            rw [if_e (by omega) (by omega)]
            by_cases e22 : en - k = 2
            · have c1 := t4 (k + 1) (by omega)
              rw [if_pos e22, ckR_35 L, osm_p t1, ckR_p kt1 kt2, ckI_n (by omega) (by omega), nI_cl (by omega), c0.1, show nI k + 1 = nI (k + 1) from nI_1 k, osm_p t1, ckR_p kt1 kt2, ckI_n (by omega) (by omega), nI_cl (by omega), c1.1]
              show wp (FR b0) σ (if nI (tx k) = nI 46 then (if nI (tx (k + 1)) = nI 46 then _ else _) else _) _
              rw [if_e (by omega) (by omega), if_e (by omega) (by omega)]
              by_cases e46 : tx k = 46
              · rw [if_pos e46]
                by_cases e47 : tx (k + 1) = 46
                · rw [if_pos e47, if_neg (fun q => by have := (c46.mp q).1; omega), if_pos (c4646.mpr ⟨e22, e46, e47⟩)]
                  unfold J_X12_walk_151 J_X12_walk_163
                  rw [if_pos rfl, if_neg (show ¬ (1 : Int32) = 0 by decide), if_neg (show ¬ (1 : Int32) = 0 by decide), ckR_35 L]
                  show wp (FR b0) σ (cll (m_X12_node b0 fu (b0 + 35) (nI d) (nI 3) σ) _) _
                  rw [node_nd hr hd (by omega), cll_some]
                  exact go (nd A d 3) (nd_3 hT hd)
                · rw [if_neg e47]
                  exact look (fun q => by have := (c46.mp q).1; omega) (fun q => e47 (c4646.mp q).2.2)
              · rw [if_neg e46]
                exact look (fun q => e46 (c46.mp q).2) (fun q => e46 (c4646.mp q).2.1)
            · rw [if_neg e22]
              exact look (fun q => e1 (c46.mp q).1) (fun q => e22 (c4646.mp q).1)
        · rw [if_neg e28, if_pos (show 28 < en - k by omega)]
          exact wp_ret ((FR_good b0).1 _) ⟨rfl, s, h⟩
      · rw [if_neg e2, if_pos e2]
        exact wp_ret ((FR_good b0).1 _) ⟨rfl, s, h⟩
end RW3
