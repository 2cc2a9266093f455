/-! ===== PURE: the reference's forget ===== -/
section FJ
variable {b0 fu : Nat} {σ τ : tM} {A B U : tS} {c : Nat → Nat} {N K un nl ns : Nat} {J : tJ}
theorem fg1_0 (h : RM b0 J σ A N) : RM b0 (fg1 J 0) σ A N := by
  have e : fg1 J 0 = (J.1, J.2.1, J.2.2.1, fun p s => ∃ q, q = p + 0 ∧ J.2.2.2 q s) := by
    unfold fg1
    congr 1
    funext f i
    rw [chB_at]
    split
    · rename_i w; rw [w.1, Nat.sub_zero]
    · rfl
  rw [e]
  obtain ⟨hr, hT, ad, ln, U, un, hd, hl, hb, hu, hm⟩ := h
  exact ⟨hr, hT, ad, ln, U, un, hd, hl, hb, hu, hm.1, fun p s ⟨q, e, w⟩ => by rw [Nat.add_zero] at e; subst e; exact hm.2 _ s w⟩
theorem fg1_B {fr : Nat} {f i : Nat} (h : f ≠ 40) : (fg1 J fr).1 f i = J.1 f i := by
  show chB fr 0 J.2.1 J.1 f i = _
  rw [chB_at, if_neg (fun q => h q.1)]
theorem forget_wp (h : RM b0 J σ A N) (hl : 1 ≤ A 35 6) (h1 : A 35 35 ≤ A 35 32) (h2 : A 35 32 ≤ A 35 28) (h2' : A 35 28 - A 35 35 ≤ J.2.1) (h3 : J.2.1 < 100000) (h4 : ∀ i, A 35 32 - A 35 35 ≤ i → i < J.2.1 → fiJ J (A 35 32 - A 35 35) ≤ J.1 41 i) (h5 : fiJ J (A 35 32 - A 35 35) ≤ J.2.2.1) (h6 : A 35 35 < A 35 32 → J.1 38 (A 35 32 - A 35 35 - 1) + J.1 39 (A 35 32 - A 35 35 - 1) < 1000000) (hx : A 35 28 < 1000000) (hB : ∀ i, J.1 40 i < 1000000000) (hK : A 35 35 < A 35 28 → ∃ s, J.2.2.2 (J.1 40 (A 35 28 - A 35 35 - 1)) s) (hu : 200000 ≤ fu) : wp (FR b0) σ (m_X12_forget b0 fu (b0 + 35) σ) (fun _ τ => RM b0 (fgJ A J) τ (fgA A J) N) := by
  have L := h.ra.lay
  refine wp_grw (FR_good b0) ?_
  have fi1 : ∀ fr g, fiJ (fg1 J fr) g = fiJ J g := fun fr g => by
    unfold fiJ
    rw [fg1_B (by decide)]
    rfl
  have fin : ∀ σ', RM b0 (fg1 J (frA_ A J)) σ' A N → wp (FR b0) σ' (J_X12_forget_118 b0 fu (b0 + 35) σ') (fun _ τ => RM b0 (fgJ A J) τ (fgA A J) N) := fun σ' h' => by
    have := forget118 (fu := fu) h' hl h1 (by show _ ≤ J.2.1; omega) h3 (fun i w1 w2 => by rw [fi1, fg1_B (by decide)]; exact h4 i w1 w2) (by rw [fi1]; exact h5) (fun w => by rw [fg1_B (by decide), fg1_B (by decide)]; exact h6 w) (by omega) hu
    exact this
  have k31 : wp (FR b0) σ (J_X12_forget_31 b0 fu (b0 + 35) (nI (frA_ A J)) σ) (fun _ τ => RM b0 (fgJ A J) τ (fgA A J) N) := by
    obtain ⟨hT, U, un, hR, hN, hm⟩ := RM_RL.mp h
    have hfr : frA_ A J ≤ un := by
      unfold frA_
      split
      · rename_i w
        obtain ⟨s, hs⟩ := hK w
        exact (hm.2 _ s hs).1
      · exact Nat.zero_le _
    have unb : un ≤ 524288 := by
      obtain ⟨-, ad, ln, hd, -⟩ := hR
      obtain ⟨-, -, -, -, w1, w2, -⟩ := hd.1 2 rfl
      have : cntD un J.2.1 J.2.2.1 2 = un := rfl
      omega
    generalize hF : frA_ A J = fr at hfr fin
    unfold J_X12_forget_31
    show wp (FR b0) σ (if nI fr ≤ nI 0 then _ else _) _
    rw [if_l (by omega) (by omega)]
    by_cases e : fr ≤ 0
    · rw [if_pos e]
      have e0 : fr = 0 := by omega
      rw [e0] at fin
      exact fin σ (fg1_0 h)
    · rw [if_neg e, ckR_35 L]
      obtain ⟨a, n, t1, t2, t3, t4, t5, t6, t7, t8⟩ := RL_mv (f := 2) (s := fr) hR rfl hfr
      have c2 : cntD un J.2.1 J.2.2.1 2 = un := rfl
      rw [c2] at t4 t7 t8
      have ckc : ∀ n, un ≤ n → ∀ (k : Option (Unit × tM)), ckC (nI fr) 0 (nI (un - fr)) n n k = k := fun n hn k => by
        unfold ckC
        rw [nI_cl (by omega), nI_cl (by omega), show (0 : Int32).toNatClampNeg = 0 from rfl, if_pos ⟨⟨nI_pos (by omega), by decide, nI_pos (by omega)⟩, by omega, by omega⟩]
      rw [osm_p t1, osm_p t1, ckR_p t2 t3, ckR_p t2 t3, (RL_sc hR).1, nI_sb hfr, ckc n t4, ltb_def, nI_cl (by omega), nI_cl (by omega), show (0 : Int32).toNatClampNeg = 0 from rfl]
      rw [if_pos (show 2 < 4 by decide), if_pos (show 2 < 4 by decide)] at t8
      refine wp_from (FR_good b0) t7 ?_
      generalize hσ1 : sIr σ a (va_cpy (tI σ a) (tI σ a) fr 0 (un - fr)) = σ1 at t8 ⊢
      obtain ⟨a', n', u1, u2, u3, u4, u5, u6, u7, u8⟩ := RL_mv (f := 3) (s := fr) t8 rfl (by rw [upN_n (by decide)]; exact hfr)
      have c3 : upN (cntD un J.2.1 J.2.2.1) 2 (un - fr) 3 = un := rfl
      rw [c3] at u4 u7 u8
      rw [osm_p u1, osm_p u1, ckR_p u2 u3, ckR_p u2 u3, (RL_sc t8).1, nI_sb hfr, ckc n' u4, ltb_def, nI_cl (by omega)]
      rw [if_pos (show 3 < 4 by decide), if_pos (show 3 < 4 by decide)] at u8
      refine wp_from (FR_good b0) u7 ?_
      generalize hσ2 : sIr σ1 a' (va_cpy (tI σ1 a') (tI σ1 a') fr 0 (un - fr)) = σ2 at u8 ⊢
      rw [(RL_sc u8).1, nI_sb hfr]
      have v8 := RL_un u8 (un - fr)
      refine wp_from (σ1 := sI σ2 (b0 + 35) 4 (nI (un - fr))) (FR_good b0) (FR_sI (refO_f 35 (by omega) (by omega))) ?_
      unfold J_X12_forget_84
      obtain ⟨τ, B', x1, x2, x3, x4⟩ := forget86 (fu := fu) (fr := fr) (by omega) J.2.1 0 fu _ _ v8 (by omega) rfl (by omega) hB h3
      show wp (FR b0) _ (L_X12_forget_86 b0 fu fu (b0 + 35) (nI fr) (nI 0) (sI σ2 (b0 + 35) 4 (nI (un - fr)))) _
      rw [x1]
      refine wp_from (FR_good b0) x2 (fin τ ?_)
      subst x3
      refine RM_RL.mpr ⟨hT, upR (upR U 2 (fun i => U 2 (i + fr))) 3 (fun i => U 3 (i + fr)), un - fr, ?_, by omega, ?_⟩
      · have eU : upR (upR U 2 (fun i => U 2 (i + fr))) 3 (fun i => upR U 2 (fun i => U 2 (i + fr)) 3 (i + fr)) = upR (upR U 2 (fun i => U 2 (i + fr))) 3 (fun i => U 3 (i + fr)) := rfl
        rw [eU] at x4
        refine RL_c x4 fun f hf => ?_
        rcases isD_all hf with rfl | rfl | rfl | rfl | rfl | rfl | rfl | rfl | rfl | rfl <;> rfl
      · refine ⟨fun i hi => hm.1 (i + fr) (by omega), ?_⟩
        rintro p s ⟨q, e1, w⟩
        obtain ⟨m1, m2⟩ := hm.2 q s w
        refine ⟨by omega, ?_⟩
        have e2 : upR (upR U 2 (fun i => U 2 (i + fr))) 3 (fun i => U 3 (i + fr)) 2 = fun i => U 2 (i + fr) := rfl
        have e3 : upR (upR U 2 (fun i => U 2 (i + fr))) 3 (fun i => U 3 (i + fr)) 3 = fun i => U 3 (i + fr) := rfl
        rw [e2, e3, und_mv, ← e1, show un - fr + fr = un by omega]
        exact m2
  rw [ckR_35 L, rf_28 h.ra, rf_35 h.ra, if_l (by omega) (by omega)]
  by_cases e : A 35 28 ≤ A 35 35
  · rw [if_pos e]
    have : frA_ A J = 0 := if_neg (by omega)
    rw [this] at k31
    exact k31
  · rw [if_neg e]
    obtain ⟨a, n, q1, q2, q3, q4, q5, q6, q7⟩ := h.dy (f := 40) (k := A 35 28 - A 35 35 - 1) (by omega) (by omega) (by omega)
    have e1 : nI (A 35 28) - nI (A 35 35) - 1 = nI (A 35 28 - A 35 35 - 1) := by
      rw [nI_sb (by omega)]
      exact nI_sb (b := 1) (by omega)
    rw [osm_p q1, ckR_p q2 q3, e1, ckI_n q4 q5, nI_cl (by omega), q6]
    have : frA_ A J = J.1 40 (A 35 28 - A 35 35 - 1) := if_pos (by omega)
    rw [this] at k31
    exact k31
end FJ
