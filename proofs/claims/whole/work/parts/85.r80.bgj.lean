/-! ===== PURE: the class begins anew: its end ===== -/
section BG3
variable {b0 fu : Nat} {σ τ ρ : tM} {C C' X : tS} {D D' : tD} {mo z : Nat → Nat} {l r m k c q : Nat}
theorem setBaseS_n (h : CG b0 σ C D mo z (m + 1)) {c : Nat} (hc : c < 2034) (e0 : dP D 21 c = none) : wp (F6 b0) σ (m_X1_setBase b0 fu (b0 + 20) (nI c) (some (z m)) σ) (fun _ τ => CG b0 τ C (upP D 21 c (some (z m))) mo z m) := by
  have L := h.lay
  have e21 : tA σ (b0 + 21) c = dP D 21 c := by
    obtain ⟨-, -, -, pl, ⟨g1, -⟩, -⟩ := h
    exact (g1 21 c (Or.inr (Or.inr ⟨rfl, hc⟩))).1
  have rz : isRow b0 σ (z m) (dW D (z m)) := by
    obtain ⟨-, -, -, pl, -, gz⟩ := h
    exact (gz m (by omega)).1
  refine wp_grw (F6_good b0) ?_
  unfold J_X1_setBase_28
  show wp (F6 b0) σ (if nI c < nI 0 then _ else if nI 2034 ≤ nI c then _ else _) _
  rw [if_t (by omega) (by omega), if_neg (by omega), if_l (by omega) (by omega), if_neg (by omega), ckC_20 L, osm_p (rfC_20_3 L), ckC_21 L, ckI_n hc (by omega), nI_cl (by omega), e21, e0]
  obtain ⟨q1, q2, q3⟩ := CG_toB h hc e0
  rw [omt_none, giveN_c, cll_some, ckC_20 L, osm_p (rfC_20_3 L), omt_some, ckC_21 L, ckI_n hc (by omega), ckO_row rz]
  exact wp_ret ⟨q2.fc h.rf, by rw [rd_A1 _ _ _ _ (by omega)]⟩ q1
/-- the root as it is set up, in words -/
theorem su_f (h7 : 34 ≤ C 10 7) (h15 : C 15 2 = 0) : (∀ p, p ≠ 10 → p ≠ 11 → p ≠ 15 → p ≠ 19 → suC C 0 2 0 p = C p) ∧ (∀ q, suC C 0 2 0 11 q = if q = 64 then 2 else C 11 q) ∧ (∀ q, q ≠ 11 → suC C 0 2 0 10 q = C 10 q) := by
  have e : suC C 0 2 0 = up2 (up2 (up2 (up2 C 11 64 2) 15 2 1) 10 11 (C 10 11 + 1)) 19 0 0 := by
    show up2 (touC (up2 C 11 64 2) 2) 19 0 0 = _
    unfold touC
    rw [if_pos ⟨by omega, by rw [up2_o (by decide)]; omega, by rw [up2_o (by decide)]; exact h15⟩, up2_o (by decide)]
  rw [e]
  refine ⟨fun p h1 h2 h3 h4 => by rw [up2_rown h4, up2_rown h1, up2_rown h3, up2_rown h2], fun q => ?_, fun q hq => ?_⟩
  · rw [up2_o (by decide), up2_o (by decide), up2_o (by decide), up2_if]
    by_cases c : q = 64
    · rw [if_pos ⟨rfl, c⟩, if_pos c]
    · rw [if_neg (fun e => c e.2), if_neg c]
  · rw [up2_o (by decide), up2_j hq, up2_o (by decide), up2_o (by decide)]
theorem ci_su (hc : ci C) : ci (suC C 0 2 0) := by
  have := ci_sn (n := 0) (i := 0) (v := hdV 2 0 0 0) hc
  exact ci_cong this (fun q _ => up2_o (by decide)) (up2_rown (by decide)) (up2_rown (by decide)) (up2_rown (by decide))
/-- the journal's numbers -/
def jrC (C : tS) (l : Nat) : tS := rsC (up2 (up2 (up2 C 20 8 l) 20 11 0) 20 17 0) 0
theorem jr_f : (∀ p, p ≠ 10 → p ≠ 15 → p ≠ 16 → p ≠ 19 → p ≠ 20 → jrC C l p = C p) ∧ (∀ c, jrC C l 15 c = 0 ∧ jrC C l 16 c = 0) ∧ (∀ n, n < 64 → jrC C l 19 n = 0) ∧ (∀ q, jrC C l 10 q = if q = 11 ∨ q = 12 then 0 else if q = 16 then 1 else C 10 q) ∧ (jrC C l 20 8 = l ∧ jrC C l 20 9 = 0 ∧ jrC C l 20 10 = 0 ∧ jrC C l 20 11 = 0 ∧ (jrC C l 20 12 = 0 ∧ jrC C l 20 13 = 0 ∧ jrC C l 20 14 = 0 ∧ jrC C l 20 15 = 0 ∧ jrC C l 20 16 = 0) ∧ jrC C l 20 17 = 0) := by
  obtain ⟨f1, f2, f3, -⟩ := rsC_f (C := up2 (up2 (up2 C 20 8 l) 20 11 0) 20 17 0) (to := 0)
  have e20 : ∀ q, up2 (up2 (up2 C 20 8 l) 20 11 0) 20 17 0 20 q = if q = 17 then 0 else if q = 11 then 0 else if q = 8 then l else C 20 q := fun q => by
    rw [up2_if, up2_if, up2_if]
    by_cases c1 : q = 17
    · rw [if_pos ⟨rfl, c1⟩, if_pos c1]
    · rw [if_neg (fun e => c1 e.2), if_neg c1]
      by_cases c2 : q = 11
      · rw [if_pos ⟨rfl, c2⟩, if_pos c2]
      · rw [if_neg (fun e => c2 e.2), if_neg c2]
        by_cases c3 : q = 8
        · rw [if_pos ⟨rfl, c3⟩, if_pos c3]
        · rw [if_neg (fun e => c3 e.2), if_neg c3]
  unfold jrC
  refine ⟨fun p h1 h2 h3 h4 h5 => by rw [f1 p h1 h2 h3 h4 h5, up2_rown h5, up2_rown h5, up2_rown h5], fun c => ?_, fun n hn => ?_, fun q => ?_, ?_⟩
  · unfold rsC
    rw [fl_row (by decide), fl_row (by decide)]
    unfold emF
    exact ⟨if_pos (Or.inl rfl), if_pos (Or.inr rfl)⟩
  · unfold rsC
    rw [fl_at, if_pos ⟨rfl, Nat.zero_le _, by omega⟩]
  · rw [f3, up2_o (by decide), up2_o (by decide), up2_o (by decide)]
  · simp only [f2, e20]
    exact ⟨rfl, rfl, rfl, rfl, ⟨rfl, rfl, rfl, rfl, rfl⟩, rfl⟩
theorem jr1_c (hl : l < 1000000) (hc : ci C) (hu : 3000 ≤ fu) (h : CM b0 σ C D) : wp (FC b0) σ (m_X1_restart b0 fu (b0 + 20) 0 (sI (sI (sI σ (b0 + 20) 8 (nI l)) (b0 + 20) 11 0) (b0 + 20) 17 0)) (fun _ τ => CM b0 τ (jrC C l) D) := by
  have k1 := CM_fix (o := 20) (j := 8) (x := l) (v := nI l) h rfl rfl (show l < 2147483648 by omega)
  have k2 := CM_fix (o := 20) (j := 11) (x := 0) (v := 0) k1 rfl rfl (by decide)
  have k3 := CM_fix (o := 20) (j := 17) (x := 0) (v := 0) k2 rfl rfl (by decide)
  exact wp_from (FC_good b0) (FC_2 (FC_2 (FC_sI (o := 20) (j := 8) (v := nI l) h.rf (by omega)) (FC_sI (o := 20) (j := 11) (v := 0) k1.rf (by omega))) (FC_sI (o := 20) (j := 17) (v := 0) k2.rf (by omega))) (restart_c (fu := fu) (to := 0) k3 (ci_cong hc (fun q _ => by rw [up2_o (by decide), up2_o (by decide), up2_o (by decide)]) (by rw [up2_rown (by decide), up2_rown (by decide), up2_rown (by decide)]) (by rw [up2_rown (by decide), up2_rown (by decide), up2_rown (by decide)]) (by rw [up2_rown (by decide), up2_rown (by decide), up2_rown (by decide)])) (by omega) hu)
/-- tape, paths, handles -/
def tlC (C : tS) : tS := fl 32 0 0 16 (up2 (up2 (up2 (up2 (up2 (up2 (up2 C 26 1 0) 28 1 0) 28 2 0) 28 3 0) 30 1 0) 30 2 0) 30 3 0)
theorem pf28 (h : CM b0 σ C D) : wp (FC b0) σ (m_X3_forget b0 fu (b0 + 28) σ) (fun _ τ => CM b0 τ (up2 (up2 (up2 C 28 1 0) 28 2 0) 28 3 0) D) := by
  have k1 := CM_fix (o := 28) (j := 1) (x := 0) (v := 0) h rfl rfl (by decide)
  have k2 := CM_fix (o := 28) (j := 2) (x := 0) (v := 0) k1 rfl rfl (by decide)
  have k3 := CM_fix (o := 28) (j := 3) (x := 0) (v := 0) k2 rfl rfl (by decide)
  refine wp_grw (FC_good b0) ?_
  rw [ckC_28 h.lay]
  exact wp_ret (FC_2 (FC_2 (FC_sI (o := 28) (j := 1) (v := 0) h.rf (by omega)) (FC_sI (o := 28) (j := 2) (v := 0) k1.rf (by omega))) (FC_sI (o := 28) (j := 3) (v := 0) k2.rf (by omega))) k3
theorem pf30 (h : CM b0 σ C D) : wp (FC b0) σ (m_X3_forget b0 fu (b0 + 30) σ) (fun _ τ => CM b0 τ (up2 (up2 (up2 C 30 1 0) 30 2 0) 30 3 0) D) := by
  have k1 := CM_fix (o := 30) (j := 1) (x := 0) (v := 0) h rfl rfl (by decide)
  have k2 := CM_fix (o := 30) (j := 2) (x := 0) (v := 0) k1 rfl rfl (by decide)
  have k3 := CM_fix (o := 30) (j := 3) (x := 0) (v := 0) k2 rfl rfl (by decide)
  refine wp_grw (FC_good b0) ?_
  rw [ckC_30 h.lay]
  exact wp_ret (FC_2 (FC_2 (FC_sI (o := 30) (j := 1) (v := 0) h.rf (by omega)) (FC_sI (o := 30) (j := 2) (v := 0) k1.rf (by omega))) (FC_sI (o := 30) (j := 3) (v := 0) k2.rf (by omega))) k3
theorem tail_c (hu : 3000 ≤ fu) (h : CM b0 σ C D) : wp (FC b0) σ (ckO b0 σ (b0 + 0) 10 (osm (tA σ (b0 + 0) 6) (fun a48 => ckO b0 σ a48 6 (cll (m_X6_useUp b0 fu a48 σ) (fun v52 ρ53 => ckO b0 ρ53 (b0 + 0) 10 (osm (tA ρ53 (b0 + 0) 7) (fun a57 => ckO b0 ρ53 a57 3 (cll (m_X3_forget b0 fu a57 ρ53) (fun v61 ρ62 => ckO b0 ρ62 (b0 + 0) 10 (osm (tA ρ62 (b0 + 0) 8) (fun a66 => ckO b0 ρ62 a66 3 (cll (m_X3_forget b0 fu a66 ρ62) (fun v70 ρ71 => ckO b0 ρ71 (b0 + 0) 10 (osm (tA ρ71 (b0 + 0) 9) (fun a75 => cll (m_J7_fill_53178 b0 fu a75 (-1) ρ71) (fun v77 ρ78 => some ((), ρ78))))))))))))))))) (fun _ τ => CM b0 τ (tlC C) D) := by
  rw [ckC_0 h.lay, osm_p (rfC_0_6 h.lay), ckC_26 h.lay]
  refine wp_bind (FC_good b0) (useUp_c (fu := fu) h) (fun _ ρ1 q1 => ?_)
  rw [ckC_0 q1.lay, osm_p (rfC_0_7 q1.lay), ckC_28 q1.lay]
  refine wp_bind (FC_good b0) (pf28 (fu := fu) q1) (fun _ ρ2 q2 => ?_)
  rw [ckC_0 q2.lay, osm_p (rfC_0_8 q2.lay), ckC_30 q2.lay]
  refine wp_bind (FC_good b0) (pf30 (fu := fu) q2) (fun _ ρ3 q3 => ?_)
  rw [ckC_0 q3.lay, osm_p (rfC_0_9 q3.lay)]
  refine wp_bind (FC_good b0) (fill_h (fu := fu) q3 hu) (fun _ ρ4 q4 => ?_)
  exact wp_ret ((FC_good b0).1 _) q4
theorem tl_f : (∀ p, p ≠ 26 → p ≠ 28 → p ≠ 30 → p ≠ 32 → tlC C p = C p) ∧ (tlC C 26 1 = 0 ∧ (tlC C 28 1 = 0 ∧ tlC C 28 2 = 0 ∧ tlC C 28 3 = 0) ∧ (tlC C 30 1 = 0 ∧ tlC C 30 2 = 0 ∧ tlC C 30 3 = 0)) ∧ ∀ h, h < 16 → tlC C 32 h = 0 := by
  unfold tlC
  refine ⟨fun p h1 h2 h3 h4 => ?_, ?_, fun h hh => ?_⟩
  · rw [fl_row h4, up2_rown h3, up2_rown h3, up2_rown h3, up2_rown h2, up2_rown h2, up2_rown h2, up2_rown h1]
  · rw [fl_row (by decide), fl_row (by decide), fl_row (by decide)]
    refine ⟨?_, ⟨?_, ?_, ?_⟩, ?_, ?_, ?_⟩
    · rw [up2_o (by decide), up2_o (by decide), up2_o (by decide), up2_o (by decide), up2_o (by decide), up2_o (by decide), up2_s]
    · rw [up2_o (by decide), up2_o (by decide), up2_o (by decide), up2_j (by decide), up2_j (by decide), up2_s]
    · rw [up2_o (by decide), up2_o (by decide), up2_o (by decide), up2_j (by decide), up2_s]
    · rw [up2_o (by decide), up2_o (by decide), up2_o (by decide), up2_s]
    · rw [up2_j (by decide), up2_j (by decide), up2_s]
    · rw [up2_j (by decide), up2_s]
    · rw [up2_s]
  · rw [fl_at, if_pos ⟨rfl, Nat.zero_le _, by omega⟩]
end BG3
