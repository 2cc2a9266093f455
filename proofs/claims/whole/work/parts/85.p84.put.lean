/-! ===== PURE: the class's Disk: put ===== -/
section DP
variable {b0 fu : Nat} {σ τ : tM} {A B : tS} {C C' : tS} {D D' D'' : tD} {bi sp : Nat → Nat} {K : Nat}
theorem ve1_44 (A : tS) (s b wh id j : Nat) : ve1 A s b wh id 44 j = if j = s then id else A 44 j := by
  unfold ve1
  rw [up2_o (by decide)]
  have key : up2 (up2 (up2 A 42 s b) 43 s wh) 44 s id 44 j = if j = s then id else A 44 j := by
    by_cases c : j = s
    · rw [if_pos c, c, up2_s]
    · rw [if_neg c, up2_j c, up2_o (by decide), up2_o (by decide)]
  split
  · unfold upR
    rw [if_neg (by decide)]
    exact key
  · exact key
theorem ve1_45 (A : tS) (s b wh id j : Nat) : ve1 A s b wh id 45 j = if wh = 3 ∧ 256 * s ≤ j ∧ j < 256 * s + 256 then A 47 (256 * (b - 34 - A 35 6) + (j - 256 * s)) else A 45 j := by
  unfold ve1
  rw [up2_o (by decide)]
  by_cases c : wh = 3
  · rw [if_pos c]
    unfold upR cpR
    rw [if_pos rfl]
    by_cases q : 256 * s ≤ j ∧ j < 256 * s + 256
    · rw [if_pos q, if_pos ⟨c, q⟩]
    · rw [if_neg q, if_neg (fun r => q r.2)]
  · rw [if_neg c, if_neg (fun r => c r.1), up2_o (by decide), up2_o (by decide), up2_o (by decide)]
theorem ve1_16 (A : tS) (s b wh id : Nat) : ve1 A s b wh id 35 16 = A 35 16 + 1 := up2_s _ _ _ _
theorem vs_ve1 {b wh id b' : Nat} (h6 : A 35 16 < 256) (h5 : A 35 15 < 256) : vsN (ve1 A ((A 35 15 + A 35 16) % 256) b wh id) b' = vsN A b' + (if b = b' then 1 else 0) := by
  unfold vsN
  rw [ve1_16, ve1_35 _ _ _ _ _ _ (by decide), cn_snoc]
  have e1 : cn (fun i => ve1 A ((A 35 15 + A 35 16) % 256) b wh id 42 ((A 35 15 + i) % 256) == b') 0 (A 35 16) = cn (fun i => A 42 ((A 35 15 + i) % 256) == b') 0 (A 35 16) := by
    refine cn_congr _ _ (fun i _ hi => ?_)
    rw [ve1_42, if_neg (by omega)]
  rw [e1, ve1_42, Nat.zero_add, if_pos rfl]
  congr 1
  by_cases c : b = b'
  · rw [if_pos c, if_pos (by simp [c])]
  · rw [if_neg c, if_neg (by simp [c])]
/-- the slot that waits, if any -/
def pnd (wh s : Nat) : Nat := if wh = 3 then s else 256
theorem put31 {b wh id : Nat} (h : CM b0 σ C D) (hR : DR bi sp C D A) (h6 : A 35 16 < 256) (h5 : A 35 15 < 256) (hb : b < 6130) (ht : tgA bi sp wh id < 2147483648) : wp (FC b0) σ (J_X0_put_31 b0 fu (b0 + 1) (nI b) (nI (tgA bi sp wh id)) σ) (fun v τ => DX b0 bi sp C D (pnd wh ((A 35 15 + A 35 16) % 256)) v τ (.inl (ve1 A ((A 35 15 + A 35 16) % 256) b wh id))) := by
  obtain ⟨⟨r1, r2, r3, r4, r5, r6, r7⟩, rs, -, rk, rc, rch⟩ := hR
  have L := h.lay
  have m1 : (A 35 15 + A 35 16) % 256 < 256 := Nat.mod_lt _ (by omega)
  have e1 : nI (A 35 15) + nI (A 35 16) - (nI (A 35 15) + nI (A 35 16)) / (256 : Int32) * (256 : Int32) = nI ((A 35 15 + A 35 16) % 256) := by
    rw [nI_add]
    exact pk_rem (d := 256) (by omega) (by omega) (by omega)
  have v1 : C 4 b = vsN A b := rc b hb
  have v2 : vsN A b ≤ 256 := Nat.le_trans (cn_le _ _ _) (by omega)
  unfold J_X0_put_31
  simp only [ckR_sI, rd_AI]
  rw [ckC_1 L, ltb_def, cf_1_9 h.ca, cf_1_10 h.ca, r2, r3, e1, osm_p (rfC_1_4 L), ckC_6 L, ckI_n m1 (by omega), osm_p (rfC_1_5 L), ckC_7 L, ckI_n m1 (by omega), osm_p (rfC_1_7 L), ckC_9 L, ckI_n m1 (by omega), nI_cl (by omega), ltb_def]
  generalize hs : (A 35 15 + A 35 16) % 256 = s at *
  have k1 := CM_fix (o := 6) (j := s) (x := b) (v := nI b) h rfl rfl (by show _ < 2147483648; omega)
  have k2 := CM_fix (o := 7) (j := s) (x := tgA bi sp wh id) (v := nI (tgA bi sp wh id)) k1 rfl rfl ht
  have k3 := CM_fix (o := 9) (j := s) (x := 0) (v := vp_nar .boolean 0) k2 rfl vb0 (by decide)
  rw [cf_1_10 k3.ca, up2_o (by decide), up2_o (by decide), up2_o (by decide), r3, show nI (A 35 16) + (1 : Int32) = nI (A 35 16 + 1) from nI_add _ 1]
  have k4 := CM_fix (o := 1) (j := 10) (x := A 35 16 + 1) (v := nI (A 35 16 + 1)) k3 rfl rfl (by show _ < 2147483648; omega)
  have L4 := k4.lay
  rw [osm_p (rfC_1_2 L4), ckC_4 L4, ckI_n hb (by omega), ckI_n hb (by omega), nI_cl (by omega), cd_4 k4.ca, up2_o (by decide), up2_o (by decide), up2_o (by decide), up2_o (by decide), v1, show nI (vsN A b) + (1 : Int32) = nI (vsN A b + 1) from nI_add _ 1]
  have k5 := CM_fix (o := 4) (j := b) (x := vsN A b + 1) (v := nI (vsN A b + 1)) k4 rfl rfl (by show _ < 2147483648; omega)
  refine wp_ret (FC_2 (FC_sI h.rf (by omega)) (FC_2 (FC_sI k1.rf (by omega)) (FC_2 (FC_sI k2.rf (by omega)) (FC_2 (FC_sI k3.rf (by omega)) (FC_sI k4.rf (by omega)))))) ⟨rfl, _, D, k5, ?_, ?_, JP_r D, EP_r D⟩
  · generalize hX : up2 (up2 (up2 (up2 (up2 C 6 s b) 7 s (tgA bi sp wh id)) 9 s 0) 1 10 (A 35 16 + 1)) 4 b (vsN A b + 1) = X
    have x1 : ∀ q, q ≠ 10 → X 1 q = C 1 q := fun q e2 => by rw [← hX, up2_o (by decide), up2_j e2, up2_o (by decide), up2_o (by decide), up2_o (by decide)]
    have x6 : ∀ j, X 6 j = if j = s then b else C 6 j := fun j => by
      rw [← hX, up2_o (by decide), up2_o (by decide), up2_o (by decide), up2_o (by decide)]
      by_cases c : j = s
      · rw [if_pos c, c, up2_s]
      · rw [if_neg c, up2_j c]
    have x7 : ∀ j, X 7 j = if j = s then tgA bi sp wh id else C 7 j := fun j => by
      rw [← hX, up2_o (by decide), up2_o (by decide), up2_o (by decide)]
      by_cases c : j = s
      · rw [if_pos c, c, up2_s]
      · rw [if_neg c, up2_j c, up2_o (by decide)]
    have x9 : ∀ j, X 9 j = if j = s then 0 else C 9 j := fun j => by
      rw [← hX, up2_o (by decide), up2_o (by decide)]
      by_cases c : j = s
      · rw [if_pos c, c, up2_s]
      · rw [if_neg c, up2_j c, up2_o (by decide), up2_o (by decide)]
    have x4 : ∀ j, X 4 j = if j = b then vsN A b + 1 else C 4 j := fun j => by
      rw [← hX]
      by_cases c : j = b
      · rw [if_pos c, c, up2_s]
      · rw [if_neg c, up2_j c, up2_o (by decide), up2_o (by decide), up2_o (by decide), up2_o (by decide)]
    have xo : ∀ p, p ≠ 1 → p ≠ 4 → p ≠ 6 → p ≠ 7 → p ≠ 9 → X p = C p := fun p e1 e2 e3 e4 e5 => by rw [← hX, up2_rown e2, up2_rown e1, up2_rown e5, up2_rown e4, up2_rown e3]
    have o35 : ∀ j, j ≠ 16 → ve1 A s b wh id 35 j = A 35 j := fun j e => ve1_35 _ _ _ _ _ _ e
    have oo : ∀ o, o ≠ 35 → o ≠ 42 → o ≠ 43 → o ≠ 44 → o ≠ 45 → ve1 A s b wh id o = A o := fun o e0 e1 e2 e3 e4 => by funext j; exact ve1_o _ _ _ _ _ _ e0 e1 e2 e3 e4
    have slx : X 6 s = ve1 A s b wh id 42 s ∧ X 7 s = tgA bi sp (ve1 A s b wh id 43 s) (ve1 A s b wh id 44 s) ∧ X 9 s = 0 := by
      rw [x6, x7, x9, ve1_42, ve1_43, ve1_44, if_pos rfl, if_pos rfl, if_pos rfl, if_pos rfl, if_pos rfl, if_pos rfl]
      exact ⟨rfl, rfl, rfl⟩
    refine ⟨⟨?_, ?_, ?_, ?_, ?_, ?_, ?_⟩, fun i hi hx => ?_, fun q => ?_, fun b' hb2 => ?_, fun b' hb2 => ?_, fun b' hb2 => ?_⟩
    · rw [x1 8 (by decide), o35 6 (by decide), o35 7 (by decide)]; exact r1
    · rw [x1 9 (by decide), o35 15 (by decide)]; exact r2
    · rw [ve1_16, ← hX, up2_o (by decide), up2_s]
    · rw [x1 11 (by decide), o35 20 (by decide)]; exact r4
    · rw [x1 12 (by decide), o35 21 (by decide)]; exact r5
    · rw [x1 13 (by decide), o35 19 (by decide)]; exact r6
    · rw [x1 14 (by decide), o35 18 (by decide)]; exact r7
    · rw [o35 15 (by decide)] at hx ⊢
      rw [ve1_16] at hi
      by_cases c : i = A 35 16
      · subst c
        rw [hs] at hx ⊢
        have wn : wh ≠ 3 := fun e => hx (by unfold pnd; rw [if_pos e])
        refine ⟨slx.1, slx.2.1, ?_, fun q => ?_⟩
        · rw [slx.2.2, ve1_43, if_pos rfl, if_neg wn]
        · rw [ve1_43, if_pos rfl] at q
          exact absurd q wn
      · have ns : (A 35 15 + i) % 256 ≠ s := by rw [← hs]; omega
        obtain ⟨t1, t2, t3, t4⟩ := rs i (by omega) (by have := Nat.mod_lt (A 35 15 + i) (show 0 < 256 by omega); omega)
        unfold SL
        rw [x6, x7, x9, ve1_42, ve1_43, ve1_44, if_neg ns, if_neg ns, if_neg ns, if_neg ns, if_neg ns, if_neg ns]
        refine ⟨t1, t2, t3, fun q => ?_⟩
        obtain ⟨a, q5, q6⟩ := t4 q
        refine ⟨a, q5, fun j hj => ?_⟩
        rw [ve1_45, if_neg (by omega)]
        exact q6 j hj
    · have e : pnd wh s = s := by
        unfold pnd at q ⊢
        by_cases c : wh = 3
        · rw [if_pos c]
        · rw [if_neg c] at q
          omega
      rw [e]
      exact slx
    · exact KB_cong (rk b' hb2) (xo 2 (by decide) (by decide) (by decide) (by decide) (by decide)) (oo 39 (by decide) (by decide) (by decide) (by decide) (by decide)) (oo 40 (by decide) (by decide) (by decide) (by decide) (by decide)) (oo 41 (by decide) (by decide) (by decide) (by decide) (by decide)) (o35 6 (by decide))
    · rw [x4, ← hs, vs_ve1 h6 h5]
      by_cases c : b' = b
      · rw [if_pos c, c, if_pos rfl]
      · rw [if_neg c, if_neg (fun e => c e.symm), Nat.add_zero]
        exact rc b' hb2
    · rw [xo 5 (by decide) (by decide) (by decide) (by decide) (by decide), oo 46 (by decide) (by decide) (by decide) (by decide) (by decide)]
      exact rch b' hb2
  · exact cO_up (by omega) (cO_up (by omega) (cO_up (by omega) (cO_up (by omega) (cO_up (by omega) (cO_r C)))))
theorem EP_t0 {n m : Nat} (h : EP D D' 0 0) (k : EP D' D'' n m) : EP D D'' n m := by
  have := EP_t h k
  rw [Nat.zero_add, Nat.zero_add] at this
  exact this
theorem DX_pre {x : Nat} {v : Unit ⊕ Unit} {X : tS ⊕ tS} (h1 : cO C C') (h2 : JP D D') (h3 : EP D D' 0 0) (h : DX b0 bi sp C' D' x v τ X) : DX b0 bi sp C D x v τ X := by
  cases X with
  | inl A =>
    obtain ⟨e, C2, D2, q1, q2, q3, q4, q5⟩ := h
    exact ⟨e, C2, D2, q1, q2, cO_t h1 q3, JP_t h2 q4, EP_t0 h3 q5⟩
  | inr A =>
    obtain ⟨e, C2, D2, q1, q2, q3, q4, q5⟩ := h
    exact ⟨e, C2, D2, q1, q2, cO_t h1 q3, JP_t h2 q4, EP_t0 h3 q5⟩
/-- the slot of the next version -/
def nxS (A : tS) : Nat := (ve2 (actA A) 35 15 + ve2 (actA A) 35 16) % 256
theorem put_c {b wh id : Nat} (h : CM b0 σ C D) (hR : DR bi sp C D A) (hd : dsk A (K + 1)) (hz : ∀ b, A 46 b = 0) (hb : b < 34 + A 35 6 + A 35 7) (ht : tgA bi sp wh id < 2147483648) (hu : 3000 ≤ fu) : wp (FC b0) σ (m_X0_put b0 fu (b0 + 1) (nI b) (nI (tgA bi sp wh id)) σ) (fun v τ => DX b0 bi sp C D (pnd wh (nxS A)) v τ (verX A b wh id)) := by
  have d1 := hd.1
  have d2 := hd.2.1
  refine wp_grw (FC_good b0) ?_
  rw [ckC_1 h.lay]
  have ha := act_c (fu := fu) h hR hd hz hu
  unfold verX
  by_cases c : A 35 19 = 1
  · rw [if_pos c] at ha ⊢
    refine wp_clx (FC_good b0) ha ?_ ?_
    · intro v ρ q
      exact absurd q.1 (fun e => by cases e)
    · intro ρ q
      exact q
  · rw [if_neg c] at ha ⊢
    refine wp_clx (FC_good b0) ha ?_ ?_
    · rintro v ρ ⟨_, C1, D1, q1, q2, q3, q4, q5⟩
      have hd1 := dsk_act hd
      have e8 : C1 1 8 = 34 + A 35 6 + A 35 7 := by rw [q2.1.1, actA_35 A 6 (by decide) (by decide), actA_35 A 7 (by decide) (by decide)]
      have e10 : C1 1 10 = actA A 35 16 := q2.1.2.2.1
      have hle := hd1.2.2.2.1
      rw [if_neg (nI_pos (by omega)), ckC_1 q1.lay, cf_1_8 q1.ca, e8, if_t (by omega) (by omega), if_pos hb, cf_1_10 q1.ca, e10]
      show wp (FC b0) ρ (if nI (actA A 35 16) < nI 256 then _ else _) _
      rw [if_t (by omega) (by omega)]
      by_cases c2 : actA A 35 16 < 256
      · rw [if_pos c2]
        have e2 : ve2 (actA A) = actA A := if_neg (by omega)
        have := put31 (fu := fu) (b := b) (wh := wh) (id := id) q1 q2 c2 hd1.2.2.1 (by omega) ht
        unfold verA nxS
        rw [e2]
        exact wp_mono this (fun v ρ _ q => DX_pre q3 q4 q5 q)
      · rw [if_neg c2]
        have e2 : ve2 (actA A) = koA (actA A) := if_pos (by omega)
        refine wp_bind (FC_good b0) (keepOldest_c (fu := fu) q1 q2 hd1 (by omega)) ?_
        rintro _ ρ2 ⟨C2, D2, p1, p2, p3, p4, p5⟩
        have hd2 := dsk_ko hd1 (by omega)
        have := put31 (fu := fu) (b := b) (wh := wh) (id := id) p1 p2 (by rw [koA_16]; omega) hd2.2.2.1 (by omega) ht
        unfold verA nxS
        rw [e2]
        exact wp_mono this (fun v ρ _ q => DX_pre (cO_t q3 p3) (JP_t q4 p4) (EP_t0 q5 p5) q)
    · intro ρ q
      exact absurd q.1 (fun e => by cases e)
end DP
