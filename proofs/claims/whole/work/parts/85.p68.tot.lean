/-! ===== PURE: the reference's total ===== -/
def toN (A : tS) (J : tJ) (w : Nat) : Int :=
  if w = 0 then (if A 35 18 = 0 then 0 else 1) else if w = 1 then (A 35 16 : Int) else if w = 2 then (A 35 20 : Int) else if w = 3 then (A 35 21 : Int) else if w = 4 then (A 35 19 : Int) - 1
  else if w = 5 then (cn (frA A) 0 (A 35 7) : Int) else if w = 6 then (rbA A : Int) else if w = 7 then (dbA A : Int) else if w = 8 then (fnA A : Int) else if w = 9 then (gsA A : Int)
  else if w = 10 then (tcA A : Int) else if w = 11 then (rcA A : Int) else if w = 12 then (A 35 28 : Int) else if w = 13 then (A 35 29 : Int) else if w = 14 then (A 35 30 : Int) else if w = 15 then (A 35 31 : Int)
  else if w = 16 then (A 35 32 : Int) else if w = 17 then (freA_ A J : Int) else (A 35 33 : Int)
def toA (x : Int32) (A : tS) (J : tJ) : Int × tS :=
  if x < 0 ∨ (18 : Int32) < x then (-9, up2 A 35 0 0) else if A 35 18 = 0 ∧ 5 ≤ x.toNatClampNeg then (-1, up2 A 35 0 0) else (toN (up2 A 35 0 0) J x.toNatClampNeg, up2 A 35 0 0)
def foOk (A : tS) (J : tJ) : Prop := A 35 35 ≤ A 35 32 ∧ A 35 32 ≤ A 35 28 ∧ A 35 28 - A 35 35 ≤ J.2.1 ∧ szL J.1 (A 35 32 - A 35 35) (A 35 28 - A 35 32) ≤ A 35 6 ∧ A 35 28 < 1000000
section TO
variable {b0 fu : Nat} {σ τ : tM} {A B U : tS} {N N' K K' : Nat} {J : tJ}
theorem iz_m1 (x : Nat) : iz ((x : Int) - 1) = nI x - 1 := by
  cases x with
  | zero => decide
  | succ y =>
    rw [show ((y + 1 : Nat) : Int) - 1 = (y : Int) by omega, iz_n]
    exact (nI_sb (a := y + 1) (b := 1) (by omega)).symm
theorem to32 (h : RM b0 J σ A N) {w : Nat} (hw : w ≤ 18) (hl : A 35 6 ≤ 4096) (hr : A 35 7 ≤ 2000) (ho : A 35 18 ≠ 0 → foOk A J) (h18 : A 35 18 = 0 → w < 5) (hu : 1200000 ≤ fu) : J_X12_total_32 b0 fu (b0 + 35) (nI w) σ = some (iz (toN A J w), σ) := by
  have L := h.ra.lay
  have b18 := bd_35 h.ra 18
  unfold J_X12_total_32 J_X12_total_132 toN
  show (if nI w = nI 0 then ckO b0 σ (b0 + 35) 11 (if tI σ (b0 + 35) 18 = nI 0 then _ else _) else if nI w = nI 1 then _ else if nI w = nI 2 then _ else if nI w = nI 3 then _ else if nI w = nI 4 then _ else if nI w = nI 5 then _ else if nI w = nI 6 then _ else if nI w = nI 7 then _ else if nI w = nI 8 then _ else if nI w = nI 9 then _ else if nI w = nI 10 then _ else if nI w = nI 11 then _ else if nI w = nI 12 then _ else if nI w = nI 13 then _ else if nI w = nI 14 then _ else if nI w = nI 15 then _ else if nI w = nI 16 then _ else if nI w = nI 17 then _ else _) = _
  simp only [ckR_35 L, rf_18 h.ra, rf_16 h.ra, rf_20 h.ra, rf_21 h.ra, rf_19 h.ra, rf_28 h.ra, rf_29 h.ra, rf_30 h.ra, rf_31 h.ra, rf_32 h.ra, rf_33 h.ra]
  rw [if_e (a := w) (b := 0) (by omega) (by omega), if_e (a := w) (b := 1) (by omega) (by omega), if_e (a := w) (b := 2) (by omega) (by omega), if_e (a := w) (b := 3) (by omega) (by omega), if_e (a := w) (b := 4) (by omega) (by omega), if_e (a := w) (b := 5) (by omega) (by omega), if_e (a := w) (b := 6) (by omega) (by omega), if_e (a := w) (b := 7) (by omega) (by omega), if_e (a := w) (b := 8) (by omega) (by omega), if_e (a := w) (b := 9) (by omega) (by omega), if_e (a := w) (b := 10) (by omega) (by omega), if_e (a := w) (b := 11) (by omega) (by omega), if_e (a := w) (b := 12) (by omega) (by omega), if_e (a := w) (b := 13) (by omega) (by omega), if_e (a := w) (b := 14) (by omega) (by omega), if_e (a := w) (b := 15) (by omega) (by omega), if_e (a := w) (b := 16) (by omega) (by omega), if_e (a := w) (b := 17) (by omega) (by omega), if_e (a := A 35 18) (b := 0) b18 (by omega)]
  by_cases c : w = 0
  · rw [if_pos c, if_pos c]
    split <;> rfl
  rw [if_neg c, if_neg c]
  by_cases c : w = 1
  · rw [if_pos c, if_pos c, iz_n]
  rw [if_neg c, if_neg c]
  by_cases c : w = 2
  · rw [if_pos c, if_pos c, iz_n]
  rw [if_neg c, if_neg c]
  by_cases c : w = 3
  · rw [if_pos c, if_pos c, iz_n]
  rw [if_neg c, if_neg c]
  by_cases c : w = 4
  · rw [if_pos c, if_pos c, iz_m1]
  rw [if_neg c, if_neg c]
  have on : A 35 18 ≠ 0 := fun e => by have := h18 e; omega
  by_cases c : w = 5
  · rw [if_pos c, if_pos c, freeBlocks_eq h.ra hr (by omega), cll_some, iz_n]
  rw [if_neg c, if_neg c]
  by_cases c : w = 6
  · rw [if_pos c, if_pos c, retiredBlocks_eq h.ra hr (by omega), cll_some, iz_n]
  rw [if_neg c, if_neg c]
  by_cases c : w = 7
  · rw [if_pos c, if_pos c, dirtyBlocks_eq h.ra hr (by omega), cll_some, iz_n]
  rw [if_neg c, if_neg c]
  by_cases c : w = 8
  · rw [if_pos c, if_pos c, freeNodes_eq h.ra (by omega), cll_some, iz_n]
  rw [if_neg c, if_neg c]
  by_cases c : w = 9
  · rw [if_pos c, if_pos c, groupSize_eq h.ra (by omega), cll_some, iz_n]
  rw [if_neg c, if_neg c]
  by_cases c : w = 10
  · rw [if_pos c, if_pos c, osm_p (rfR_35_26 L), count51 h.ra (by omega), cll_some, iz_n]
  rw [if_neg c, if_neg c]
  by_cases c : w = 11
  · rw [if_pos c, if_pos c, osm_p (rfR_35_27 L), count52 h.ra (by omega), cll_some, iz_n]
  rw [if_neg c, if_neg c]
  by_cases c : w = 12
  · rw [if_pos c, if_pos c, iz_n]
  rw [if_neg c, if_neg c]
  by_cases c : w = 13
  · rw [if_pos c, if_pos c, iz_n]
  rw [if_neg c, if_neg c]
  by_cases c : w = 14
  · rw [if_pos c, if_pos c, iz_n]
  rw [if_neg c, if_neg c]
  by_cases c : w = 15
  · rw [if_pos c, if_pos c, iz_n]
  rw [if_neg c, if_neg c]
  by_cases c : w = 16
  · rw [if_pos c, if_pos c, iz_n]
  rw [if_neg c, if_neg c]
  by_cases c : w = 17
  · obtain ⟨o1, o2, o3, o4, o5⟩ := ho on
    rw [if_pos c, if_pos c, freeOfLog_eq h (g := A 35 32 - A 35 35) (by omega) o2 o3 o4 hl o5 (by omega) (by omega), cll_some, iz_n]
    rfl
  rw [if_neg c, if_neg c, iz_n]
theorem total_wp {x : Int32} (h : RM b0 J σ A N) (hl : A 35 6 ≤ 4096) (hr : A 35 7 ≤ 2000) (ho : A 35 18 ≠ 0 → foOk A J) (hu : 1200000 ≤ fu) : wp (FR b0) σ (m_X12_total b0 fu (b0 + 35) x σ) (fun v τ => v = iz (toA x A J).1 ∧ RM b0 J τ (toA x A J).2 N) := by
  have L := h.ra.lay
  have b18 := bd_35 h.ra 18
  have h1 : RM b0 J (sI σ (b0 + 35) 0 0) (up2 A 35 0 0) N := RM_fix (x := 0) h rfl (by decide) rfl (by decide)
  have fr : FR b0 σ (sI σ (b0 + 35) 0 0) := FR_sI (refO_f 35 (by omega) (by omega))
  have e : ∀ j, j ≠ 0 → up2 A 35 0 0 35 j = A 35 j := fun j hj => up2_j hj
  refine wp_grw (FR_good b0) ?_
  unfold J_X12_total_15 toA
  rw [ckR_35 L, rf_18 h1.ra, e 18 (by decide)]
  by_cases c0 : x < 0
  · rw [if_pos c0, if_pos (Or.inl c0)]
    exact wp_ret fr ⟨rfl, h1⟩
  · rw [if_neg c0]
    obtain ⟨m, hm, rfl⟩ := nI_of c0
    by_cases c1 : m ≤ 18
    · have n6 : ¬ (nI m < 0 ∨ (18 : Int32) < nI m) := fun r => by
        rcases r with r | r
        · exact c0 r
        · have := (nI_ltP (a := 18) (b := m) (by omega) hm).mp r
          omega
      have i5 : (nI m < 5) = (m < 5) := nI_ltP (a := m) (b := 5) hm (by omega)
      have i0 : (nI (A 35 18) = 0) = (A 35 18 = 0) := nI_eqP (b := 0) b18 (by omega)
      simp only [if_pos (show nI m ≤ 18 from (nI_leP (a := m) (b := 18) hm (by omega)).mpr c1), if_neg n6, nI_cl hm, i5, i0]
      have key : (A 35 18 = 0 → m < 5) → wp (FR b0) σ (J_X12_total_32 b0 fu (b0 + 35) (nI m) (sI σ (b0 + 35) 0 0)) (fun v τ => v = iz (toN (up2 A 35 0 0) J m) ∧ RM b0 J τ (up2 A 35 0 0) N) := by
        intro k5
        rw [to32 h1 c1 (by rw [e 6 (by decide)]; exact hl) (by rw [e 7 (by decide)]; exact hr) (fun z => by
          have := ho (by rw [e 18 (by decide)] at z; exact z)
          unfold foOk at this ⊢
          rw [e 35 (by decide), e 32 (by decide), e 28 (by decide), e 6 (by decide)]
          exact this) (by rw [e 18 (by decide)]; exact k5) hu]
        exact wp_ret fr ⟨rfl, h1⟩
      by_cases c2 : A 35 18 = 0
      · by_cases c3 : m < 5
        · simp only [if_pos c2, if_pos c3, if_neg (show ¬ (A 35 18 = 0 ∧ 5 ≤ m) from fun r => by omega)]
          exact key (fun _ => c3)
        · simp only [if_pos c2, if_neg c3, if_pos (show A 35 18 = 0 ∧ 5 ≤ m from ⟨c2, by omega⟩)]
          exact wp_ret fr ⟨rfl, h1⟩
      · simp only [if_neg c2, if_neg (show ¬ (A 35 18 = 0 ∧ 5 ≤ m) from fun r => c2 r.1)]
        exact key (fun r => absurd r c2)
    · have c3 : (18 : Int32) < nI m := (nI_ltP (a := 18) (b := m) (by omega) hm).mpr (by omega)
      rw [if_neg (show ¬ nI m ≤ 18 from fun r => c1 ((nI_leP (a := m) (b := 18) hm (by omega)).mp r)), if_pos (Or.inr c3)]
      exact wp_ret fr ⟨rfl, h1⟩
end TO
