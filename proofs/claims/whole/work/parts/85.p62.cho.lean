/-! ===== PURE: the reference's choose ===== -/
def chA (x y : Int32) (A : tS) : Int × tS :=
  if A 35 18 ≠ 0 ∨ x < 0 ∨ 34 + A 35 6 + A 35 7 ≤ x.toNatClampNeg then (-9, up2 A 35 0 0)
  else if y < 0 ∨ vsN A x.toNatClampNeg < y.toNatClampNeg then (-9, up2 (up2 A 35 0 0) 35 0 0)
  else (((vsN A x.toNatClampNeg : Nat) : Int), up2 (up2 (up2 A 35 0 0) 35 0 0) 46 x.toNatClampNeg y.toNatClampNeg)
section CH
variable {b0 fu : Nat} {σ τ : tM} {A B U : tS} {N N' K K' : Nat} {J : tJ}
theorem choose_wp {x y : Int32} (h : RM b0 J σ A N) (h5 : A 35 15 < 1000) (h6 : A 35 16 ≤ 256) (hl : A 35 6 ≤ 4096) (hr : A 35 7 ≤ 2000) (hu : 3000 ≤ fu) : wp (FR b0) σ (m_X12_choose b0 fu (b0 + 35) x y σ) (fun v τ => v = iz (chA x y A).1 ∧ RM b0 J τ (chA x y A).2 N) := by
  have L := h.ra.lay
  have b18 := bd_35 h.ra 18
  have h1 : RM b0 J (sI σ (b0 + 35) 0 0) (up2 A 35 0 0) N := RM_fix (x := 0) h rfl (by decide) rfl (by decide)
  have fr : FR b0 σ (sI σ (b0 + 35) 0 0) := FR_sI (refO_f 35 (by omega) (by omega))
  refine wp_grw (FR_good b0) ?_
  unfold J_X12_choose_24 J_X12_choose_42 chA
  rw [ckR_35 L, rf_18 h1.ra, up2_j (show (18 : Nat) ≠ 0 by decide)]
  show wp (FR b0) σ (if nI (A 35 18) = nI 0 then _ else _) _
  rw [if_e b18 (by omega)]
  by_cases c0 : A 35 18 = 0
  · rw [if_pos c0]
    by_cases c : x < 0
    · rw [if_pos c, if_pos (Or.inr (Or.inl c))]
      exact wp_ret fr ⟨rfl, h1⟩
    · obtain ⟨m, hm, rfl⟩ := nI_of c
      rw [if_neg c, blocks_eq h1.ra, cll_some, up2_j (show (6 : Nat) ≠ 0 by decide), up2_j (show (7 : Nat) ≠ 0 by decide), if_t hm (by omega), nI_cl hm]
      by_cases c2 : m < 34 + A 35 6 + A 35 7
      · rw [if_pos c2, if_neg (fun r => by rcases r with r | r | r; exact r c0; exact c r; omega), ckR_35 h1.ra.lay]
        have e15 : up2 A 35 0 0 35 15 = A 35 15 := up2_j (by decide)
        have e16 : up2 A 35 0 0 35 16 = A 35 16 := up2_j (by decide)
        have e6 : up2 A 35 0 0 35 6 = A 35 6 := up2_j (by decide)
        have e7 : up2 A 35 0 0 35 7 = A 35 7 := up2_j (by decide)
        have e42 : up2 A 35 0 0 42 = A 42 := up2_rown (by decide)
        have eN' : vsN (up2 A 35 0 0) m = vsN A m := by unfold vsN; rw [e15, e16, e42]
        have eV : vsA (nI m) (up2 A 35 0 0) = (((vsN A m : Nat) : Int), up2 (up2 A 35 0 0) 35 0 0) := by
          unfold vsA
          rw [nI_cl hm, e6, e7, eN', if_neg (fun r => by rcases r with r | r; exact c r; omega)]
        have vb : vsN A m ≤ A 35 16 := cn_le _ _ _
        refine wp_from (FR_good b0) fr (wp_bind (FR_good b0) (versions_wp (fu := fu) (x := nI m) h1 (by rw [e15]; exact h5) (by rw [e16]; exact h6) (by rw [e6]; exact hl) (by rw [e7]; exact hr) hu) ?_)
        intro v ρ ⟨q1, q2⟩
        rw [eV] at q1 q2
        have q1 : v = nI (vsN A m) := q1.trans (iz_n _)
        subst q1
        by_cases d : y < 0
        · rw [if_pos d, if_pos (Or.inl d)]
          exact wp_ret ((FR_good b0).1 _) ⟨rfl, q2⟩
        · obtain ⟨w, hw, rfl⟩ := nI_of d
          rw [if_neg d, if_l hw (by omega), nI_cl hw]
          by_cases d2 : w ≤ vsN A m
          · have L2 := q2.ra.lay
            rw [if_pos d2, if_neg (fun r => by rcases r with r | r; exact d r; omega), ckR_35 L2, osm_p (rfR_35_17 L2), ckR_46 L2, ckI_n (by omega) (by omega)]
            exact wp_ret (FR_sI (refO_f 46 (by omega) (by omega))) ⟨(iz_n _).symm, RM_fix (o := 46) (j := m) (x := w) q2 rfl (by decide) rfl hw⟩
          · rw [if_neg d2, if_pos (Or.inr (by omega))]
            exact wp_ret ((FR_good b0).1 _) ⟨rfl, q2⟩
      · rw [if_neg c2, if_pos (Or.inr (Or.inr (by omega)))]
        exact wp_ret fr ⟨rfl, h1⟩
  · rw [if_neg c0, if_pos (Or.inl c0)]
    exact wp_ret fr ⟨rfl, h1⟩
end CH
