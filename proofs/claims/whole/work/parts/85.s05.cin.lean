/-! ===== PURE: the class's constructor ===== -/
/-- what new cells of the class hold -/
def C00 : tS := fun o j => if o = 12 ∨ o = 32 ∨ (o = 1 ∧ j = 13) then 1 else if (o = 28 ∨ o = 30) ∧ j = 4 then 16 else 0
section CIN
variable {b0 fu u : Nat} {τ0 σ τ ρ : tM} {C C2 E : tS} {D : tD}
theorem C00_dec (o j : Nat) (h : o < 33) : decC o j (C00 o j) = 0 := by
  have : o = 0 ∨ o = 1 ∨ o = 2 ∨ o = 3 ∨ o = 4 ∨ o = 5 ∨ o = 6 ∨ o = 7 ∨ o = 8 ∨ o = 9 ∨ o = 10 ∨ o = 11 ∨ o = 12 ∨ o = 13 ∨ o = 14 ∨ o = 15 ∨ o = 16 ∨ o = 17 ∨ o = 18 ∨ o = 19 ∨ o = 20 ∨ o = 21 ∨ o = 22 ∨ o = 23 ∨ o = 24 ∨ o = 25 ∨ o = 26 ∨ o = 27 ∨ o = 28 ∨ o = 29 ∨ o = 30 ∨ o = 31 ∨ o = 32 := by omega
  rcases this with rfl | rfl | rfl | rfl | rfl | rfl | rfl | rfl | rfl | rfl | rfl | rfl | rfl | rfl | rfl | rfl | rfl | rfl | rfl | rfl | rfl | rfl | rfl | rfl | rfl | rfl | rfl | rfl | rfl | rfl | rfl | rfl | rfl
  case inr.inl =>
    show (if j = 13 then nI (C00 1 j) - 1 else nI (C00 1 j)) = 0
    unfold C00
    by_cases c : j = 13
    · rw [if_pos c, if_pos (Or.inr (Or.inr ⟨rfl, c⟩))]
      rfl
    · rw [if_neg c, if_neg (by omega), if_neg (by omega)]
      rfl
  case inr.inr.inr.inr.inr.inr.inr.inr.inr.inr.inr.inr.inr.inr.inr.inr.inr.inr.inr.inr.inr.inr.inr.inr.inr.inr.inr.inr.inl =>
    show (if j = 4 then nI (C00 28 j) - 16 else nI (C00 28 j)) = 0
    unfold C00
    by_cases c : j = 4
    · rw [if_pos c, if_neg (by omega), if_pos ⟨Or.inl rfl, c⟩]
      rfl
    · rw [if_neg c, if_neg (by omega), if_neg (by omega)]
      rfl
  case inr.inr.inr.inr.inr.inr.inr.inr.inr.inr.inr.inr.inr.inr.inr.inr.inr.inr.inr.inr.inr.inr.inr.inr.inr.inr.inr.inr.inr.inr.inl =>
    show (if j = 4 then nI (C00 30 j) - 16 else nI (C00 30 j)) = 0
    unfold C00
    by_cases c : j = 4
    · rw [if_pos c, if_neg (by omega), if_pos ⟨Or.inr rfl, c⟩]
      rfl
    · rw [if_neg c, if_neg (by omega), if_neg (by omega)]
      rfl
  case inr.inr.inr.inr.inr.inr.inr.inr.inr.inr.inr.inr.inl =>
    show nI (C00 12 j) - 1 = 0
    rw [show C00 12 j = 1 from if_pos (Or.inl rfl)]
    rfl
  case inr.inr.inr.inr.inr.inr.inr.inr.inr.inr.inr.inr.inr.inr.inr.inr.inr.inr.inr.inr.inr.inr.inr.inr.inr.inr.inr.inr.inr.inr.inr.inr =>
    show nI (C00 32 j) - 1 = 0
    rw [show C00 32 j = 1 from if_pos (Or.inr (Or.inl rfl))]
    rfl
  all_goals rfl
theorem bnd_pos (o j : Nat) : 0 < bndD o j := by
  refine Nat.lt_of_lt_of_le ?_ (bndD_le o j)
  unfold bndC
  split <;> decide
theorem C00_ok : okC C00 := fun o j => by
  unfold C00
  by_cases c1 : o = 12 ∨ o = 32 ∨ (o = 1 ∧ j = 13)
  · rw [if_pos c1]
    rcases c1 with rfl | rfl | ⟨rfl, rfl⟩
    · exact (show 1 < 2147483648 by decide)
    · exact (show 1 < 2147483648 by decide)
    · exact (show 1 < 2147483649 by decide)
  · rw [if_neg c1]
    by_cases c2 : (o = 28 ∨ o = 30) ∧ j = 4
    · rw [if_pos c2]
      rcases c2 with ⟨rfl | rfl, rfl⟩
      · exact (show 16 < 2147483648 by decide)
      · exact (show 16 < 2147483648 by decide)
    · rw [if_neg c2]
      exact bnd_pos o j
theorem MB_lay (h : MB b0 0 τ0 σ 33 u Kc (Rc b0)) : LayCz b0 σ := by
  obtain ⟨h1, -, -, -, h5⟩ := h
  have k : ∀ i, i < 33 → tk σ (b0 + i) = Kc i := fun i hi => (h5 i (Nat.zero_le _) hi).1
  have a : ∀ i j, i < 33 → tA σ (b0 + i) j = Rc b0 i j := fun i j hi => ((h5 i (Nat.zero_le _) hi).2 j).2.2
  unfold LayCz
  rw [k 0 (by omega), k 1 (by omega), k 2 (by omega), k 3 (by omega), k 4 (by omega), k 5 (by omega), k 6 (by omega), k 7 (by omega), k 8 (by omega), k 9 (by omega), k 10 (by omega), k 11 (by omega), k 12 (by omega), k 13 (by omega), k 14 (by omega), k 15 (by omega), k 16 (by omega), k 17 (by omega), k 18 (by omega), k 19 (by omega), k 20 (by omega), k 21 (by omega), k 22 (by omega), k 23 (by omega), k 24 (by omega), k 25 (by omega), k 26 (by omega), k 27 (by omega), k 28 (by omega), k 29 (by omega), k 30 (by omega), k 31 (by omega), k 32 (by omega), a 0 0 (by omega), a 0 1 (by omega), a 0 2 (by omega), a 0 3 (by omega), a 0 4 (by omega), a 0 5 (by omega), a 0 6 (by omega), a 0 7 (by omega), a 0 8 (by omega), a 0 9 (by omega), a 1 0 (by omega), a 1 1 (by omega), a 1 2 (by omega), a 1 3 (by omega), a 1 4 (by omega), a 1 5 (by omega), a 1 6 (by omega), a 1 7 (by omega), a 10 0 (by omega), a 10 1 (by omega), a 10 2 (by omega), a 10 3 (by omega), a 10 4 (by omega), a 10 5 (by omega), a 10 6 (by omega), a 18 0 (by omega), a 18 1 (by omega), a 18 2 (by omega), a 20 0 (by omega), a 20 1 (by omega), a 20 2 (by omega), a 20 3 (by omega), a 20 4 (by omega), a 23 0 (by omega), a 23 1 (by omega), a 23 2 (by omega), a 23 3 (by omega), a 24 0 (by omega), a 24 1 (by omega), a 26 0 (by omega), a 28 0 (by omega), a 30 0 (by omega)]
  exact ⟨by omega, rfl, rfl, rfl, rfl, rfl, rfl, rfl, rfl, rfl, rfl, rfl, rfl, rfl, rfl, rfl, rfl, rfl, rfl, rfl, rfl, rfl, rfl, rfl, rfl, rfl, rfl, rfl, rfl, rfl, rfl, rfl, rfl, rfl, rfl, rfl, rfl, rfl, rfl, rfl, rfl, rfl, rfl, rfl, rfl, rfl, rfl, rfl, rfl, rfl, rfl, rfl, rfl, rfl, rfl, rfl, rfl, rfl, rfl, rfl, rfl, rfl, rfl, rfl, rfl, rfl, rfl, rfl, rfl, rfl, rfl, rfl, rfl, rfl, rfl, rfl⟩
theorem MB_CA (h : MB b0 0 τ0 σ 33 u Kc (Rc b0)) : CAz b0 σ C00 := by
  have L := MB_lay h
  obtain ⟨h1, -, -, -, h5⟩ := h
  refine ⟨L, fun o j e => ?_, fun j => ?_, C00_ok⟩
  · have l := isC_lt e
    rw [((h5 o (Nat.zero_le _) (by omega)).2 j).1, C00_dec o j (by omega)]
  · rw [((h5 11 (Nat.zero_le _) (by omega)).2 j).2.1]
    rfl
theorem sA_none {a j : Nat} (h : tA σ a j = none) : sA σ a j none = σ := by
  unfold sA
  refine Prod.ext rfl (Prod.ext rfl (Prod.ext rfl (Prod.ext rfl ?_)))
  funext p q
  show tup (tA σ) a j none p q = tA σ p q
  unfold tup
  by_cases d1 : p = a
  · by_cases d2 : q = j
    · rw [if_pos d1, if_pos d2, d1, d2, h]
    · rw [if_pos d1, if_neg d2]
  · rw [if_neg d1]
/-- forget, where there is nothing -/
theorem forget_z (hu : 1 ≤ fu) (h : CMz b0 σ C D) (h7 : C 10 7 = 0) (h5 : tA σ (b0 + 20) 5 = none) (h6 : tA σ (b0 + 20) 6 = none) : m_X1_forget b0 fu (b0 + 20) σ = some ((), σ) := by
  obtain ⟨f, rfl⟩ : ∃ g, fu = g + 1 := ⟨fu - 1, by omega⟩
  have L := h.lay
  have dr : m_X1_dropAll b0 (f + 1) (b0 + 20) σ = some ((), σ) := by
    unfold m_X1_dropAll
    rw [ckC_20z L, h5, omt_none]
    unfold L_X1_dropAll_5
    rw [ltb_def, omt_none, ckC_20z L, sA_none h5, sA_none h6]
    exact grw_same
  unfold m_X1_forget
  rw [ckC_20z L, dr, cll_some]
  unfold L_X1_forget_6
  have z0 : (0 : Int32) = nI 0 := rfl
  rw [ltb_def, ckC_20z L, osm_p (rfC_20_1z L), ckC_10z L, cf_10_7z h.ca, h7, z0, if_l (by omega) (by omega), if_pos (Nat.le_refl _)]
  exact grw_same
/-- forgetMarks, where there is nothing -/
theorem marks_z (hu : 1 ≤ fu) (h : CMz b0 σ C D) (h7 : C 10 7 = 0) : wp (FCz b0) σ (m_X5_forgetMarks b0 fu (b0 + 10) σ) (fun _ τ => CMz b0 τ C D) := by
  obtain ⟨f, rfl⟩ : ∃ g, fu = g + 1 := ⟨fu - 1, by omega⟩
  have L := h.lay
  have z0 : (0 : Int32) = nI 0 := rfl
  have b16 := h.ca.2.2.2 10 16
  have k1 := CM_fixz (o := 10) (j := 16) (x := C 10 16) (v := nI (C 10 16)) h rfl rfl b16
  rw [up2_id] at k1
  refine wp_grw (FC_goodz b0) ?_
  unfold L_X5_forgetMarks_2 J_X5_forgetMarks_28
  rw [ltb_def, ckC_10z L, cf_10_7z h.ca, h7, z0, if_l (by omega) (by omega), if_pos (Nat.le_refl _), ckC_10z L]
  have e16 : tI σ (b0 + 10) 16 = nI (C 10 16) := h.ca.2.1 10 16 rfl
  have eg : m_X5_emptyGroup b0 (f + 1) (b0 + 10) (nI (C 10 16)) σ = some ((), sI σ (b0 + 10) 16 (nI (C 10 16))) := by
    unfold m_X5_emptyGroup L_X5_emptyGroup_2 J_X5_emptyGroup_72
    rw [ltb_def, ckC_10z L, cf_10_7z h.ca, h7, z0, if_l (by omega) (by omega), if_pos (Nat.le_refl _), ckC_10z L]
    exact grw_p rfl (Nat.le_refl _) (Nat.le_refl _)
  rw [e16, eg, cll_some]
  exact wp_ret (FC_sIz (o := 10) (j := 16) (v := nI (C 10 16)) h.rf (by omega)) k1
end CIN
