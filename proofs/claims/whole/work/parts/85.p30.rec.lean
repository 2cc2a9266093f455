/-! ===== PURE: the reference records a transaction ===== -/
/-- the records behind a transaction of a size: its number's id, its place, its size, where its changes end, its lists -/
def rcB (A B : tS) (k nl size un : Nat) : tS :=
  up2 (up2 (up2 (up2 (up2 B 37 k (A 35 34)) 38 k (A 35 33)) 39 k size) 40 k un) 41 k nl
def blk (A : tS) : Nat := 34 + A 35 6 + A 35 7
def tch (A : tS) (b : Nat) : Bool := A 51 b != 0
def rvk (A : tS) (b : Nat) : Bool := A 52 b != 0
def rc2 (A B : tS) (k nl : Nat) : tS := up2 (lsB (tch A) 0 (blk A) B nl) 42 k (cn (tch A) 0 (blk A))
def rc3 (A B : tS) (k nl : Nat) : tS := up2 (lsB (rvk A) 0 (blk A) B nl) 43 k (cn (rvk A) 0 (blk A))
def recB (A B : tS) (k nl size un : Nat) : tS := rc3 A (rc2 A (rcB A B k nl size un) k nl) k (nl + cn (tch A) 0 (blk A))
def recJ (A : tS) (J : tJ) (size un : Nat) : tJ := (recB A J.1 J.2.1 J.2.2.1 size un, J.2.1 + 1, J.2.2.1 + cn (tch A) 0 (blk A) + cn (rvk A) 0 (blk A), fun p s => J.2.2.2 p s ∨ (p = un ∧ s = A 36))
section RC
variable {b0 fu : Nat} {σ τ : tM} {A B U : tS} {c : Nat → Nat} {N K un nl ns : Nat} {J : tJ}
theorem RL_c {c2 : Nat → Nat} (h : RL b0 σ A B U c un ns nl) (e : ∀ f, isD f = true → c f = c2 f) : RL b0 σ A B U c2 un ns nl := by
  obtain ⟨hr, ad, ln, ⟨h1, h2, h3, h4⟩, hl1, hb⟩ := h
  exact ⟨hr, ad, ln, ⟨fun f hf => by rw [← e f hf]; exact h1 f hf, h2, h3, h4⟩, hl1, hb⟩
theorem rec224 {k st n0 : Nat} (hA : blk A ≤ 6130) : ∀ m b f σ B c nl, RL b0 σ A B U c un ns nl → c 44 = nl → b + m = blk A → m < f → nl + m < 262144 → c 43 = k → k < 64 → c 41 = k + 1 → c 42 = k + 1 → B 41 k = st → B 42 k = n0 → st + n0 ≤ nl → wp (FR b0) σ (L_X12_record_224 b0 fu f (b0 + 35) (nI k) (nI b) σ) (fun _ τ => ∃ c', RL b0 τ A (up2 (lsB (rvk A) b m B nl) 43 k (nl + cn (rvk A) b m - st - n0)) U c' un ns (nl + cn (rvk A) b m) ∧ c' 44 = nl + cn (rvk A) b m ∧ c' 43 = k + 1 ∧ ∀ f, f ≠ 43 → f ≠ 44 → c' f = c f) := by
  intro m
  induction m with
  | zero =>
    intro b f σ B c nl h hc hb hf hn h43 hk h41 h42 e41 e42 hst
    obtain ⟨f, rfl⟩ : ∃ q, f = q + 1 := ⟨f - 1, by omega⟩
    have L := h.1.lay
    unfold L_X12_record_224
    obtain ⟨a, n, q1, q2, q3, q4, q5, q6, q7, q8⟩ := RL_push (f := 43) (v := nl - st - n0) h (by omega) (by omega) (by omega) (by omega)
    obtain ⟨a1, n1, r1, r2, r3, r4, r5, r6, r7, r8⟩ := RL_get (f := 41) (i := k) h (by omega) (by omega) (by omega)
    obtain ⟨a2, n2, t1, t2, t3, t4, t5, t6, t7, t8⟩ := RL_get (f := 42) (i := k) h (by omega) (by omega) (by omega)
    rw [h43] at q4 q7 q8
    rw [ltb_def, ckR_35 L, blocks_eq h.1, cll_some]
    show wp (FR b0) σ (if nI (blk A) ≤ nI b then _ else _) _
    rw [if_l (by omega) (by omega), if_pos (by omega), ckR_35 L, osm_p q1, osm_p r1, ckR_p r2 r3, ckI_n r4 r5, osm_p t1, ckR_p t2 t3, ckI_n t4 t5, ckR_p q2 q3, ckI_n q4 q5, nI_cl (by omega), (RL_sc h).2.2, r7, t7, e41, e42, nI_sb (by omega), nI_sb (by omega)]
    refine wp_ret q8 ⟨upN c 43 (k + 1), ?_, ?_, upN_s _ _ _, fun g g1 _ => upN_n g1⟩
    · have e : nl + cn (rvk A) b 0 - st - n0 = nl - st - n0 := rfl
      rw [e]
      exact q7
    · rw [upN_n (by decide)]; exact hc
  | succ m ih =>
    intro b f σ B c nl h hc hb hf hn h43 hk h41 h42 e41 e42 hst
    obtain ⟨f, rfl⟩ : ∃ q, f = q + 1 := ⟨f - 1, by omega⟩
    have L := h.1.lay
    unfold L_X12_record_224 J_X12_record_246
    rw [ltb_def, ckR_35 L, blocks_eq h.1, cll_some]
    show wp (FR b0) σ (if nI (blk A) ≤ nI b then _ else _) _
    rw [if_l (by omega) (by omega), if_neg (by omega), ckR_35 L, osm_p (rfR_35_27 L), ckR_52 L, ckI_n (by omega) (by omega), nI_cl (by omega), rd_52 h.1]
    have b52 := bd_52 h.1 b
    show wp (FR b0) σ (if nI (A 52 b) = nI 0 then _ else _) _
    rw [if_e (by omega) (by omega)]
    by_cases e : A 52 b = 0
    · rw [if_pos e, ltb_def, ofi]
      have e1 : rvk A b = false := by simp [rvk, e]
      have := ih (b + 1) f σ B c nl h hc (by omega) (by omega) (by omega) h43 hk h41 h42 e41 e42 hst
      unfold lsB cn
      rw [e1]
      simp only [Bool.false_eq_true, if_false, Nat.zero_add]
      exact this
    · rw [if_neg e]
      have e1 : rvk A b = true := by simp [rvk, e]
      refine wp_bind (FR_good b0) (list_wp h hc (by omega) (by omega)) fun _ ρ h1 => ?_
      rw [ltb_def, ofi]
      have := ih (b + 1) f ρ _ (upN c 44 (nl + 1)) (nl + 1) h1 (upN_s _ _ _) (by omega) (by omega) (by omega) (by rw [upN_n (by decide)]; exact h43) hk (by rw [upN_n (by decide)]; exact h41) (by rw [upN_n (by decide)]; exact h42) (by rw [up2_o (by decide)]; exact e41) (by rw [up2_o (by decide)]; exact e42) (by omega)
      unfold lsB cn
      rw [e1]
      simp only [if_true]
      rw [← Nat.add_assoc nl 1]
      refine mwp this fun _ τ q => ?_
      obtain ⟨c', x1, x2, x3, x4⟩ := q
      exact ⟨c', x1, x2, x3, fun g g1 g2 => by rw [x4 g g1 g2, upN_n g2]⟩
theorem rec177 {k st : Nat} (hA : blk A ≤ 6130) : ∀ m b f σ B c nl, RL b0 σ A B U c un ns nl → c 44 = nl → b + m = blk A → m < f → nl + m + blk A < 262144 → 10000 ≤ fu → c 42 = k → c 43 = k → k < 64 → c 41 = k + 1 → B 41 k = st → st ≤ nl → wp (FR b0) σ (L_X12_record_177 b0 fu f (b0 + 35) (nI k) (nI b) σ) (fun _ τ => ∃ c', RL b0 τ A (up2 (lsB (rvk A) 0 (blk A) (up2 (lsB (tch A) b m B nl) 42 k (nl + cn (tch A) b m - st)) (nl + cn (tch A) b m)) 43 k (cn (rvk A) 0 (blk A))) U c' un ns (nl + cn (tch A) b m + cn (rvk A) 0 (blk A)) ∧ c' 44 = nl + cn (tch A) b m + cn (rvk A) 0 (blk A) ∧ c' 43 = k + 1 ∧ c' 42 = k + 1 ∧ ∀ f, f ≠ 42 → f ≠ 43 → f ≠ 44 → c' f = c f) := by
  intro m
  induction m with
  | zero =>
    intro b f σ B c nl h hc hb hf hn hu h42 h43 hk h41 e41 hst
    obtain ⟨f, rfl⟩ : ∃ q, f = q + 1 := ⟨f - 1, by omega⟩
    have L := h.1.lay
    unfold L_X12_record_177
    obtain ⟨a, n, q1, q2, q3, q4, q5, q6, q7, q8⟩ := RL_push (f := 42) (v := nl - st) h (by omega) (by omega) (by omega) (by omega)
    obtain ⟨a1, n1, r1, r2, r3, r4, r5, r6, r7, r8⟩ := RL_get (f := 41) (i := k) h (by omega) (by omega) (by omega)
    rw [h42] at q4 q7 q8
    rw [ltb_def, ckR_35 L, blocks_eq h.1, cll_some]
    show wp (FR b0) σ (if nI (blk A) ≤ nI b then _ else _) _
    rw [if_l (by omega) (by omega), if_pos (by omega), ckR_35 L, osm_p q1, osm_p r1, ckR_p r2 r3, ckI_n r4 r5, ckR_p q2 q3, ckI_n q4 q5, nI_cl (by omega), (RL_sc h).2.2, r7, e41, nI_sb (by omega)]
    have e0 : nl + cn (tch A) b 0 = nl := rfl
    have l0 : lsB (tch A) b 0 B nl = B := rfl
    rw [e0, l0]
    refine wp_to (FR_good b0) (mwp (rec224 (k := k) (st := st) (n0 := nl - st) hA (blk A) 0 fu _ _ _ nl q7 (by rw [upN_n (by decide)]; exact hc) (by omega) (by omega) (by omega) (by rw [upN_n (by decide)]; exact h43) hk (by rw [upN_n (by decide)]; exact h41) (upN_s _ _ _) (by rw [up2_o (by decide)]; exact e41) (up2_s _ _ _ _) (by omega)) fun _ τ q => ?_) q8
    obtain ⟨c', x1, x2, x3, x4⟩ := q
    rw [show nl + cn (rvk A) 0 (blk A) - st - (nl - st) = cn (rvk A) 0 (blk A) by omega] at x1
    refine ⟨c', x1, x2, x3, ?_, fun g g1 g2 g3 => ?_⟩
    · rw [x4 42 (by decide) (by decide), upN_s]
    · rw [x4 g g2 g3, upN_n g1]
  | succ m ih =>
    intro b f σ B c nl h hc hb hf hn hu h42 h43 hk h41 e41 hst
    obtain ⟨f, rfl⟩ : ∃ q, f = q + 1 := ⟨f - 1, by omega⟩
    have L := h.1.lay
    unfold L_X12_record_177 J_X12_record_199
    rw [ltb_def, ckR_35 L, blocks_eq h.1, cll_some]
    show wp (FR b0) σ (if nI (blk A) ≤ nI b then _ else _) _
    rw [if_l (by omega) (by omega), if_neg (by omega), ckR_35 L, osm_p (rfR_35_26 L), ckR_51 L, ckI_n (by omega) (by omega), nI_cl (by omega), rd_51 h.1]
    have b51 := bd_51 h.1 b
    show wp (FR b0) σ (if nI (A 51 b) = nI 0 then _ else _) _
    rw [if_e (by omega) (by omega)]
    by_cases e : A 51 b = 0
    · rw [if_pos e, ltb_def, ofi]
      have e1 : tch A b = false := by simp [tch, e]
      have := ih (b + 1) f σ B c nl h hc (by omega) (by omega) (by omega) hu h42 h43 hk h41 e41 hst
      have e2 : lsB (tch A) b (m + 1) B nl = lsB (tch A) (b + 1) m B nl := by
        show (if tch A b then _ else _) = _
        rw [e1]; rfl
      have e3 : cn (tch A) b (m + 1) = cn (tch A) (b + 1) m := by
        show (if tch A b then 1 else 0) + _ = _
        rw [e1]
        exact Nat.zero_add _
      rw [e2, e3]
      exact this
    · rw [if_neg e]
      have e1 : tch A b = true := by simp [tch, e]
      refine wp_bind (FR_good b0) (list_wp h hc (by omega) (by omega)) fun _ ρ h1 => ?_
      rw [ltb_def, ofi]
      have := ih (b + 1) f ρ _ (upN c 44 (nl + 1)) (nl + 1) h1 (upN_s _ _ _) (by omega) (by omega) (by omega) hu (by rw [upN_n (by decide)]; exact h42) (by rw [upN_n (by decide)]; exact h43) hk (by rw [upN_n (by decide)]; exact h41) (by rw [up2_o (by decide)]; exact e41) (by omega)
      have e2 : lsB (tch A) b (m + 1) B nl = lsB (tch A) (b + 1) m (up2 B 44 nl b) (nl + 1) := by
        show (if tch A b then _ else _) = _
        rw [e1]; rfl
      have e3 : cn (tch A) b (m + 1) = 1 + cn (tch A) (b + 1) m := by
        show (if tch A b then 1 else 0) + _ = _
        rw [e1]; rfl
      rw [e2, e3, ← Nat.add_assoc nl 1]
      refine mwp this fun _ τ q => ?_
      obtain ⟨c', x1, x2, x3, x4, x5⟩ := q
      exact ⟨c', x1, x2, x3, x4, fun g g1 g2 g3 => by rw [x5 g g1 g2 g3, upN_n g3]⟩
theorem record_wp {size : Nat} (h : RM b0 J σ A N) (hk : J.2.1 < 64) (hA : blk A ≤ 6130) (hn : J.2.2.1 + 2 * blk A < 262144) (hs : size < 2147483648) (hser : A 35 34 + 1 < 1000000) (hu : 10000 ≤ fu) : wp (FR b0) σ (m_X12_record b0 fu (b0 + 35) (nI size) σ) (fun _ τ => ∃ un, un ≤ N ∧ RM b0 (recJ (up2 A 35 34 (A 35 34 + 1)) J size un) τ (up2 A 35 34 (A 35 34 + 1)) N) := by
  obtain ⟨hT, U, un, hR, hN, hm⟩ := RM_RL.mp h
  have L := h.ra.lay
  obtain ⟨sc1, sc2, sc3⟩ := RL_sc hR
  have c37 : ∀ f, 37 ≤ f → f ≤ 43 → cntD un J.2.1 J.2.2.1 f = J.2.1 := fun f h1 h2 => by unfold cntD; rw [if_neg (by omega), if_pos (by omega)]
  refine wp_grw (FR_good b0) ?_
  obtain ⟨a, n, q1, q2, q3, q4, q5, q6, -, -⟩ := RL_push (f := 37) (v := 0) hR (by omega) (by omega) (by rw [c37 37 (by omega) (by omega)]; omega) (by omega)
  rw [c37 37 (by omega) (by omega)] at q4
  have n64 : J.2.1 ≠ n := by
    intro e
    omega
  rw [ckR_35 L, osm_p q1, ckR_p q2 q3, sc2, if_e (by omega) (by omega), if_neg n64]
  unfold J_X12_record_103 J_X12_record_155
  rw [ckR_35 L, sc2, ltb_def, nI_1]
  -- the fields
  have h1 := RL_ns hR (J.2.1 + 1)
  have e34 : tI (sI σ (b0 + 35) 36 (nI (J.2.1 + 1))) (b0 + 35) 34 = nI (A 35 34) := rf_34 h1.1
  simp only [rd_AI, rd_AL, rd_AIr, rd_ALr, rd_IL, rd_LI, rd_IA, rd_LA, rd_LIr, rd_ILr, ckR_sI, ckO_sI, ckR_sL, ckO_sL, ckR_sA, ckO_sA, ckR_sIr, ckO_sIr, ckR_sLr, ckO_sLr]
  rw [e34, nI_1]
  have h2 : RL b0 (sI (sI σ (b0 + 35) 36 (nI (J.2.1 + 1))) (b0 + 35) 34 (nI (A 35 34 + 1))) (up2 A 35 34 (A 35 34 + 1)) J.1 U (cntD un J.2.1 J.2.2.1) un (J.2.1 + 1) J.2.2.1 := RL_fix h1 rfl rfl (by show _ < 2147483648; omega)
  have f2 : FR b0 σ (sI (sI σ (b0 + 35) 36 (nI (J.2.1 + 1))) (b0 + 35) 34 (nI (A 35 34 + 1))) := (FR_good b0).2.1 _ _ _ (FR_sI (refO_f 35 (by omega) (by omega))) (FR_sI (refO_f 35 (by omega) (by omega)))
  rw [osm_p q1, ckR_p q2 q3, ckI_n q4 q5, nI_cl (by omega), rd_IIs, ltb_def]
  generalize hσ2 : sI (sI σ (b0 + 35) 36 (nI (J.2.1 + 1))) (b0 + 35) 34 (nI (A 35 34 + 1)) = σ2 at h2 f2 ⊢
  have ta2 : tA σ2 = tA σ := by rw [← hσ2]; rfl
  obtain ⟨a', n', p1, p2, p3, p4, p5, p6, h3, f3⟩ := RL_push (f := 37) (v := A 35 34 + 1) h2 (by omega) (by omega) (by rw [c37 37 (by omega) (by omega)]; omega) (by omega)
  rw [ta2] at p1
  have ea := Option.some.inj (q1.symm.trans p1)
  subst ea
  rw [c37 37 (by omega) (by omega)] at h3 f3 p4
  generalize hσ3 : sI σ2 a J.2.1 (nI (A 35 34 + 1)) = σ3 at h3 f3 ⊢
  have L3 := h3.1.lay
  -- 38
  obtain ⟨a8, n8, r1, r2, r3, r4, r5, r6, h4, f4⟩ := RL_push (f := 38) (v := A 35 33) h3 (by omega) (by omega) (by rw [upN_n (by decide), c37 38 (by omega) (by omega)]; omega) (bd_35 h.ra 33)
  rw [upN_n (by decide), c37 38 (by omega) (by omega)] at r4 h4 f4
  have e33 : tI σ3 (b0 + 35) 33 = nI (A 35 33) := by rw [rf_33 h3.1]; rfl
  rw [osm_p r1, ckR_p r2 r3, ckI_n r4 r5, e33]
  generalize hσ4 : sI σ3 a8 J.2.1 (nI (A 35 33)) = σ4 at h4 f4 ⊢
  have ta4 : tA σ4 = tA σ3 := by rw [← hσ4]; rfl
  have tk4 : tk σ4 = tk σ3 := by rw [← hσ4]; rfl
  have tn4 : tn σ4 = tn σ3 := by rw [← hσ4]; rfl
  -- 39
  obtain ⟨a9, n9, t1, t2, t3, t4, t5, t6, h5, f5⟩ := RL_push (f := 39) (v := size) h4 (by omega) (by omega) (by rw [upN_n (by decide), upN_n (by decide), c37 39 (by omega) (by omega)]; omega) hs
  rw [upN_n (by decide), upN_n (by decide), c37 39 (by omega) (by omega)] at t4 h5 f5
  rw [ta4] at t1
  rw [tk4] at t2
  rw [tn4] at t3
  rw [osm_p t1, ckR_p t2 t3, ckI_n t4 t5]
  have L5 := h5.1.lay
  generalize hσ5 : sI σ4 a9 J.2.1 (nI size) = σ5 at h5 f5 L5 ⊢
  have ta5 : tA σ5 = tA σ3 := by rw [← hσ5, ← ta4]; rfl
  have tk5 : tk σ5 = tk σ3 := by rw [← hσ5, ← tk4]; rfl
  have tn5 : tn σ5 = tn σ3 := by rw [← hσ5, ← tn4]; rfl
  -- 40
  obtain ⟨a10, n10, u1, u2, u3, u4, u5, u6, h6, f6⟩ := RL_push (f := 40) (v := un) h5 (by omega) (by omega) (by rw [upN_n (by decide), upN_n (by decide), upN_n (by decide), c37 40 (by omega) (by omega)]; omega) (by
    have : un ≤ 524288 := by
      obtain ⟨-, ad, ln, hd, -⟩ := hR
      obtain ⟨-, -, -, -, w1, w2, -⟩ := hd.1 2 rfl
      have : cntD un J.2.1 J.2.2.1 2 = un := rfl
      omega
    omega)
  rw [upN_n (by decide), upN_n (by decide), upN_n (by decide), c37 40 (by omega) (by omega)] at u4 h6 f6
  rw [ckR_35 L3, osm_p (show tA σ3 (b0 + 35) 40 = some a10 by rw [← ta5]; exact u1), ckR_p (show tk σ3 a10 = _ by rw [← tk5]; exact u2) (show b0 ≤ a10 ∧ a10 < b0 + tn σ3 by rw [← tn5]; exact u3), ckI_n u4 u5, (RL_sc h5).1]
  generalize hσ6 : sI σ5 a10 J.2.1 (nI un) = σ6 at h6 f6 ⊢
  have ta6 : tA σ6 = tA σ3 := by rw [← hσ6, ← ta5]; rfl
  have tk6 : tk σ6 = tk σ3 := by rw [← hσ6, ← tk5]; rfl
  have tn6 : tn σ6 = tn σ3 := by rw [← hσ6, ← tn5]; rfl
  -- 41
  obtain ⟨a11, n11, v1, v2, v3, v4, v5, v6, h7, f7⟩ := RL_push (f := 41) (v := J.2.2.1) h6 (by omega) (by omega) (by rw [upN_n (by decide), upN_n (by decide), upN_n (by decide), upN_n (by decide), c37 41 (by omega) (by omega)]; omega) (by omega)
  rw [upN_n (by decide), upN_n (by decide), upN_n (by decide), upN_n (by decide), c37 41 (by omega) (by omega)] at v4 h7 f7
  rw [osm_p (show tA σ3 (b0 + 35) 41 = some a11 by rw [← ta6]; exact v1), ckR_p (show tk σ3 a11 = _ by rw [← tk6]; exact v2) (show b0 ≤ a11 ∧ a11 < b0 + tn σ3 by rw [← tn6]; exact v3), ckI_n v4 v5, (RL_sc h6).2.2]
  generalize hσ7 : sI σ6 a11 J.2.1 (nI J.2.2.1) = σ7 at h7 f7 ⊢
  have fr7 : FR b0 σ σ7 := (FR_good b0).2.1 _ _ _ f2 ((FR_good b0).2.1 _ _ _ f3 ((FR_good b0).2.1 _ _ _ f4 ((FR_good b0).2.1 _ _ _ f5 ((FR_good b0).2.1 _ _ _ f6 f7))))
  refine wp_from (FR_good b0) fr7 ?_
  generalize hA' : up2 A 35 34 (A 35 34 + 1) = A' at h7 ⊢
  have hb : blk A' = blk A := by rw [← hA']; rfl
  have key := rec177 (fu := fu) (k := J.2.1) (st := J.2.2.1) (A := A') (by rw [hb]; exact hA) (blk A') 0 fu σ7 _ _ J.2.2.1 h7 (by rw [upN_n (by decide), upN_n (by decide), upN_n (by decide), upN_n (by decide), upN_n (by decide)]; rfl) (by omega) (by rw [hb]; omega) (by rw [hb]; omega) hu (by rw [upN_n (by decide), upN_n (by decide), upN_n (by decide), upN_n (by decide), upN_n (by decide), c37 42 (by omega) (by omega)]) (by rw [upN_n (by decide), upN_n (by decide), upN_n (by decide), upN_n (by decide), upN_n (by decide), c37 43 (by omega) (by omega)]) hk (upN_s _ _ _) (up2_s _ _ _ _) (Nat.le_refl _)
  refine mwp key fun _ τ q => ?_
  obtain ⟨c', x1, x2, x3, x4, x5⟩ := q
  have ser : A 35 34 + 1 = A' 35 34 := by rw [← hA', up2_s]
  refine ⟨un, by omega, RM_RL.mpr ⟨?_, U, un, ?_, ?_, ?_⟩⟩
  · rw [← hA']; exact okT_oth hT (by decide)
  · have e33' : A' 35 33 = A 35 33 := by rw [← hA']; rfl
    rw [ser, ← e33', show J.2.2.1 + cn (tch A') 0 (blk A') - J.2.2.1 = cn (tch A') 0 (blk A') by omega] at x1
    refine RL_c x1 fun f hf => ?_
    have cD : cntD un (J.2.1 + 1) (J.2.2.1 + cn (tch A') 0 (blk A') + cn (rvk A') 0 (blk A')) f = cntD un (recJ A' J size un).2.1 (recJ A' J size un).2.2.1 f := rfl
    rw [← cD]
    rcases isD_all hf with rfl | rfl | rfl | rfl | rfl | rfl | rfl | rfl | rfl | rfl
    · rw [x5 2 (by decide) (by decide) (by decide)]; rfl
    · rw [x5 3 (by decide) (by decide) (by decide)]; rfl
    · rw [x5 37 (by decide) (by decide) (by decide)]; rfl
    · rw [x5 38 (by decide) (by decide) (by decide)]; rfl
    · rw [x5 39 (by decide) (by decide) (by decide)]; rfl
    · rw [x5 40 (by decide) (by decide) (by decide)]; rfl
    · rw [x5 41 (by decide) (by decide) (by decide)]; rfl
    · rw [x4]; rfl
    · rw [x3]; rfl
    · rw [x2]; rfl
  · rw [← hA', usd_obj (by decide)]; exact hN
  · refine ⟨hm.1, fun p s hps => ?_⟩
    rcases hps with hps | ⟨e1, e2⟩
    · rw [← hA', up2_rown (by decide)]; exact hm.2 p s hps
    · subst e1; subst e2
      exact ⟨Nat.le_refl _, by
        have : ∀ n m, und (U 2) (U 3) n n m = m := fun n m => by
          cases n with
          | zero => rfl
          | succ n => show (if n + 1 ≤ n then _ else m) = m; rw [if_neg (by omega)]
        exact this _ _⟩
end RC
