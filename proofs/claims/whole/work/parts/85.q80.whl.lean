/-! ===== PURE: is a transaction whole, in both ===== -/
section WHL
variable {Φ : tPh} {b0 fu : Nat} {σ τ : tM} {bi sp : Nat → Nat} {w : Nat → Nat × Nat} {C C' X : tS} {D D' D'' : tD} {A B : tS} {J J' : tJ} {K n m k r b id wh e o un : Nat}
theorem tagOf_c (h : CA b0 σ C) (hb : b < C 1 8) (h8 : C 1 8 ≤ 6130) : m_X0_tagOf b0 fu (b0 + 1) (nI b) σ = some (nI (C 2 b), σ) := by
  have L := h.lay
  unfold m_X0_tagOf J_X0_tagOf_12 J_X0_tagOf_22
  rw [if_neg (nI_pos (by omega)), ckC_1 L, cf_1_8 h, if_t (by omega) (by omega), if_pos hb, osm_p (rfC_1_0 L), ckC_2 L, ckI_n (by omega) (by omega), nI_cl (by omega), cd_2 h]
  exact grw_same
/-- a tag is the stamp if and only if it is the transaction's own -/
theorem tag_eq (h : CO Φ bi sp C D A J) (h1 : 34 ≤ b) (h2 : b < 34 + A 35 6) {x : Nat} (hx : sp x ≠ 0) : C 2 b = sp x ↔ (A 39 b = 2 ∧ A 40 b = x) := by
  have jo := h.2.1.2.2.1
  unfold JO at jo
  have rg := (h.2.2.2.2.2.2.1).1 b (by omega)
  have kb := (h.1.2.2.2.1 b (by omega)).1
  have wh : A 39 b = 0 ∨ A 39 b = 2 := by
    have := rg.1
    unfold rgP at this
    omega
  rw [kb]
  unfold tgA
  rcases wh with e | e
  · rw [e, if_pos rfl]
    exact ⟨fun q => absurd q.symm hx, fun q => by cases q.1⟩
  · rw [e, if_neg (by decide), if_neg (by decide), if_pos rfl]
    constructor
    · intro q
      exact ⟨rfl, h.2.2.2.2.2.2.2.1.2.2.1 (A 40 b) x (by rw [q]; exact hx) q⟩
    · rintro ⟨-, q⟩
      rw [q]
theorem isw2 (h : CM b0 σ C D) (hC : CO Φ bi sp C D A J) (n1 : dL D < n) (n2 : n ≤ dH D) (hk : k = n - A 35 35 - 1) : ∀ j i f, i + j = J.1 39 k → j < f → L_X1_isWhole_2 b0 fu f (b0 + 20) (some (dT D 0 n)) (nI i) σ = some (nI (if sr (fun i => !(A 39 (whB A J k i) == 2 && A 40 (whB A J k i) == J.1 37 k)) i j = i + j then 1 else 0), σ) := by
  have g := CG_of (z := mo0) h
  obtain ⟨pl, t⟩ := g.tx n1 n2
  obtain ⟨b8, b9, b2, b3, b4⟩ := tx_8 t
  have jr := hC.2.1
  have jo := jr.2.2.1
  have jo0 := jo
  unfold JO at jo
  have L := h.lay
  obtain ⟨⟨t1, t2, t3, t4, t5, t6⟩, -, -, -, t7, t8, t9, t10, t11⟩ := jr.2.2.2.2.2 n n1 n2
  rw [← hk] at t1 t2 t3 t4 t7 t8 t9
  have f8 := jr.1.1
  have dr := hC.1.1.1
  intro j
  induction j with
  | zero =>
    intro i f hi hf
    obtain ⟨f, rfl⟩ : ∃ q, f = q + 1 := ⟨f - 1, by omega⟩
    unfold L_X1_isWhole_2
    rw [ltb_def, omt_some, ckO_tx t, t.2.2.1.2.2.2, t4, if_l (by omega) (by omega), if_pos (by omega), if_pos (show sr _ i 0 = i + 0 from rfl)]
    rfl
  | succ j ih =>
    intro i f hi hf
    obtain ⟨f, rfl⟩ : ∃ q, f = q + 1 := ⟨f - 1, by omega⟩
    have wb := whB_in (k := k) (i := i) jo0
    have we : 34 + wrC C (dT D 3 n + i) = whB A J k i := by
      unfold wrC whB
      rw [f8, if_pos (by omega), t3]
    have te := tag_eq hC wb.1 wb.2 t2
    have lt := cb_2 h.ca (whB A J k i)
    unfold L_X1_isWhole_2
    rw [ltb_def, omt_some, ckO_tx t, t.2.2.1.2.2.2, t4, if_l (by omega) (by omega), if_neg (by omega), ckC_20 L, osm_p (rfC_20_0 L), t.2.2.1.2.2.1, nI_add, wrap_c h.ca (by omega), cll_some, ckC_1 L]
    show cll (m_X0_tagOf b0 fu (b0 + 1) (nI 34 + nI (wrC C (dT D 3 n + i))) σ) _ = _
    rw [nI_add, we, tagOf_c h.ca (by rw [dr]; omega) (by rw [dr]; omega), cll_some, ckO_tx t, t.2.2.1.2.1, t1, if_e lt (by rw [← t1]; exact b2)]
    have sx : sr (fun i => !(A 39 (whB A J k i) == 2 && A 40 (whB A J k i) == J.1 37 k)) i (j + 1) = if (!(A 39 (whB A J k i) == 2 && A 40 (whB A J k i) == J.1 37 k)) = true then i else sr (fun i => !(A 39 (whB A J k i) == 2 && A 40 (whB A J k i) == J.1 37 k)) (i + 1) j := rfl
    rw [sx]
    by_cases c : C 2 (whB A J k i) = sp (J.1 37 k)
    · obtain ⟨c1, c2⟩ := te.mp c
      rw [if_pos c, ltb_def, ofi, ih (i + 1) f (by omega) (by omega), c1, c2, if_neg (show ¬ (!((2 : Nat) == 2 && J.1 37 k == J.1 37 k)) = true by simp), show i + 1 + j = i + (j + 1) by omega]
    · have c3 : (!(A 39 (whB A J k i) == 2 && A 40 (whB A J k i) == J.1 37 k)) = true := by
        have : ¬ (A 39 (whB A J k i) = 2 ∧ A 40 (whB A J k i) = J.1 37 k) := fun q => c (te.mpr q)
        simp only [Bool.not_eq_true', Bool.and_eq_false_iff, beq_eq_false_iff_ne]
        omega
      rw [if_neg c, if_pos c3, if_neg (by omega)]
      rfl
/-- isWhole -/
theorem isWhole_c (h : CM b0 σ C D) (hC : CO Φ bi sp C D A J) (n1 : dL D < n) (n2 : n ≤ dH D) (hu : 5000 ≤ fu) : m_X1_isWhole b0 fu (b0 + 20) (dT D 0 n) σ = some (nI (if whJ A J (n - A 35 35 - 1) = true then 1 else 0), σ) := by
  have jr := hC.2.1
  have jo := jr.2.2.1
  unfold JO at jo
  have t8 := (jr.2.2.2.2.2 n n1 n2).2.2.2.2.2.1
  have := isw2 (fu := fu) h hC n1 n2 rfl (J.1 39 (n - A 35 35 - 1)) 0 fu (by omega) (by omega)
  rw [Nat.zero_add] at this
  unfold m_X1_isWhole
  show grw σ (L_X1_isWhole_2 b0 fu fu (b0 + 20) (some (dT D 0 n)) (nI 0) σ) = _
  rw [this]
  unfold whJ
  have kj : n - A 35 35 - 1 < J.2.1 := by
    have := jr.2.1.1
    have := jr.2.1.2
    omega
  by_cases c : sr (fun i => !(A 39 (whB A J (n - A 35 35 - 1) i) == 2 && A 40 (whB A J (n - A 35 35 - 1) i) == J.1 37 (n - A 35 35 - 1))) 0 (J.1 39 (n - A 35 35 - 1)) = J.1 39 (n - A 35 35 - 1)
  · rw [if_pos c, if_pos (decide_eq_true ⟨kj, c⟩)]
    exact grw_same
  · rw [if_neg c, if_neg (by rw [decide_eq_false (fun q => c q.2)]; decide)]
    exact grw_same
end WHL
