/-! ===== PURE: calls of the law: entry, textAt, infoOf, byteAt, blockOf ===== -/
section LAQ
variable {b0 fu : Nat} {σ τ : tM} {bi sp : Nat → Nat} {w : Nat → Nat × Nat} {C : tS} {D D' : tD} {A B E : tS} {J J' : tJ} {K t un n N N' s e o eb ob v : Nat} {L : Nat} {xs : Nat → Int32} {rc : Nat → Nat → Nat → Int32 → tM → Option (Int32 × tM)} {x4 : Int32}
theorem bd_up (ht : t ≤ 63) (st : ST (PH t) bi sp w C D A J) (bv : BV t A J N) (on : A 35 18 ≠ 0) : bdOk (up2 A 35 0 0) := by
  rcases st with q | q
  · have ro := RO_scr (PH_good t) PH_ok q (sC_0 (v := 0))
    exact ⟨pat_sC bv.1.1 sC_0, dirs_ok ro.2.2.1 (Nat.lt_of_le_of_lt ht (by decide)), ro.2.1.zm.1.2.2.2.1⟩
  · exact absurd q.2.1 on
theorem ho_up (st : ST (PH t) bi sp w C D A J) (bv : BV t A J N) (on : A 35 18 ≠ 0) {x : Int32} : ∀ n, hdA (up2 A 35 0 0) x = some n → n < 64 := by
  have q0 := bv_sC bv (sC_0 (v := 0)) (up2_rown (by decide))
  rcases st with q | q
  · intro n ex
    have o1 : up2 A 35 0 0 35 18 = 1 := by
      rw [up2_j (by decide)]
      exact q.2.2.2.2.2.2.1
    exact (hd_HO (q0.2.2.2 o1).1.1 ex).1
  · exact absurd q.2.1 on
theorem off_up (q : OF (PH t) bi sp C D A J) {C' : tS} (ro : RO (PH t) bi sp w C' D (up2 A 35 0 0) J) : False := by
  have h1 : up2 A 35 0 0 35 18 = 1 := ro.2.2.2.2.2.2.1
  rw [up2_j (by decide), q.2.1] at h1
  cases h1
theorem law_1290 (g1 : ∀ k : Option (Int32 × tM), ckI (x4 + 1) L k = k) (g2 : ∀ k : Option (Int32 × tM), ckI (x4 + 2) L k = k) (ht : t ≤ 63) (hu : 1200000 ≤ fu) (hI : INV b0 t σ eb ob) : ∃ ρ, J_L_law_1290 b0 fu L xs rc (b0 + 0) (b0 + 35) (b0 + 73) x4 σ = J_L_law_1355 b0 fu L xs rc (b0 + 0) (b0 + 35) (b0 + 73) x4 ρ ∧ (tn σ ≤ tn ρ ∧ tu σ ≤ tu ρ) ∧ INV b0 (t + 1) ρ (eb + eT t) (ob + oT t) := by
  unfold J_L_law_1290 m_L_entry
  simp only [g1, g2]
  generalize xs (x4 + 1).toNatClampNeg = x
  generalize xs (x4 + 2).toNatClampNeg = y
  refine step_U (fu := fu) (mC := m_X10_entry b0 fu (b0 + 0) x y σ) (mR := fun τ => m_X12_entry b0 fu (b0 + 35) x y τ) (kk := fun ρ => J_L_law_1355 b0 fu L xs rc (b0 + 0) (b0 + 35) (b0 + 73) x4 ρ) (f := etY x y) hI (fun C D A J N bi sp w c st bv => ?_) (fun C D A J N bi sp w c st bv τ q => ?_) (fun C D A J N bi sp w s ro bv => ?_)
  · exact entry_c (by omega) c st bv.1.1
  · exact entry_wp q (fun on => bd_up ht st bv on) (by omega)
  · show BV t (etY x y A s).2 J N
    unfold etY
    have b51 := bv_sC bv (sC_51 (s := s)) (up2_rown (by decide))
    repeat' split
    all_goals first | exact bv | exact b51
theorem law_1358 (g1 : ∀ k : Option (Int32 × tM), ckI (x4 + 1) L k = k) (ht : t ≤ 63) (hu : 1200000 ≤ fu) (hI : INV b0 t σ eb ob) : ∃ ρ, J_L_law_1358 b0 fu L xs rc (b0 + 0) (b0 + 35) (b0 + 73) x4 σ = J_L_law_1411 b0 fu L xs rc (b0 + 0) (b0 + 35) (b0 + 73) x4 ρ ∧ (tn σ ≤ tn ρ ∧ tu σ ≤ tu ρ) ∧ INV b0 (t + 1) ρ (eb + eT t) (ob + oT t) := by
  unfold J_L_law_1358 m_L_textAt
  simp only [g1]
  generalize xs (x4 + 1).toNatClampNeg = x
  refine step_U (fu := fu) (mC := m_X10_textAt b0 fu (b0 + 0) x σ) (mR := fun τ => m_X12_textAt b0 fu (b0 + 35) x τ) (kk := fun ρ => J_L_law_1411 b0 fu L xs rc (b0 + 0) (b0 + 35) (b0 + 73) x4 ρ) (f := txY x) hI (fun C D A J N bi sp w c st bv => ?_) (fun C D A J N bi sp w c st bv τ q => ?_) (fun C D A J N bi sp w s ro bv => ?_)
  · exact textAt_c (by omega) c st bv.1.1
  · exact textAt_wp q (fun on => bd_up ht st bv on) (by omega)
  · show BV t (txY x A s).2 J N
    unfold txY
    have b51 := bv_sC bv (sC_51 (s := s)) (up2_rown (by decide))
    repeat' split
    all_goals first | exact bv | exact b51
theorem law_1222 (g1 : ∀ k : Option (Int32 × tM), ckI (x4 + 1) L k = k) (g2 : ∀ k : Option (Int32 × tM), ckI (x4 + 2) L k = k) (ht : t ≤ 63) (hu : 1200000 ≤ fu) (hI : INV b0 t σ eb ob) : ∃ ρ, J_L_law_1222 b0 fu L xs rc (b0 + 0) (b0 + 35) (b0 + 73) x4 σ = J_L_law_1287 b0 fu L xs rc (b0 + 0) (b0 + 35) (b0 + 73) x4 ρ ∧ (tn σ ≤ tn ρ ∧ tu σ ≤ tu ρ) ∧ INV b0 (t + 1) ρ (eb + eT t) (ob + oT t) := by
  unfold J_L_law_1222 m_L_infoOf
  simp only [g1, g2]
  generalize xs (x4 + 1).toNatClampNeg = x
  generalize xs (x4 + 2).toNatClampNeg = y
  refine step_U (fu := fu) (mC := m_X10_infoOf b0 fu (b0 + 0) x y σ) (mR := fun τ => m_X12_infoOf b0 fu (b0 + 35) x y τ) (kk := fun ρ => J_L_law_1287 b0 fu L xs rc (b0 + 0) (b0 + 35) (b0 + 73) x4 ρ) (f := ioY x y) hI (fun C D A J N bi sp w c st bv => ?_) (fun C D A J N bi sp w c st bv τ q => ?_) (fun C D A J N bi sp w s ro bv => ?_)
  · rcases st_cs st with on | q
    · exact infoOf_c (by omega) c st (bv.2.2.2 on).1.1
    · exact pubR_c (PH_good t) PH_ok c st (fun ro _ => (off_up q ro).elim)
  · exact infoOf_wp q (fun on => ⟨bd_up ht st bv on, ho_up st bv on⟩) (by omega)
  · show BV t (ioY x y A s).2 J N
    unfold ioY
    cases ex : hdA A x with
    | none => exact bv
    | some n =>
      dsimp only
      split
      · exact bv
      · exact bv
theorem law_991 (g1 : ∀ k : Option (Int32 × tM), ckI (x4 + 1) L k = k) (g2 : ∀ k : Option (Int32 × tM), ckI (x4 + 2) L k = k) (ht : t ≤ 63) (hu : 1200000 ≤ fu) (hI : INV b0 t σ eb ob) : ∃ ρ, J_L_law_991 b0 fu L xs rc (b0 + 0) (b0 + 35) (b0 + 73) x4 σ = J_L_law_1056 b0 fu L xs rc (b0 + 0) (b0 + 35) (b0 + 73) x4 ρ ∧ (tn σ ≤ tn ρ ∧ tu σ ≤ tu ρ) ∧ INV b0 (t + 1) ρ (eb + eT t) (ob + oT t) := by
  unfold J_L_law_991 m_L_byteAt
  simp only [g1, g2]
  generalize xs (x4 + 1).toNatClampNeg = x
  generalize xs (x4 + 2).toNatClampNeg = y
  refine step_U (fu := fu) (mC := m_X10_byteAt b0 fu (b0 + 0) x y σ) (mR := fun τ => m_X12_byteAt b0 fu (b0 + 35) x y τ) (kk := fun ρ => J_L_law_1056 b0 fu L xs rc (b0 + 0) (b0 + 35) (b0 + 73) x4 ρ) (f := baY x y) hI (fun C D A J N bi sp w c st bv => ?_) (fun C D A J N bi sp w c st bv τ q => ?_) (fun C D A J N bi sp w s ro bv => ?_)
  · rcases st_cs st with on | q
    · exact byteAt_c c st (bv.2.2.2 on).1.1
    · exact pubR_c (PH_good t) PH_ok c st (fun ro _ => (off_up q ro).elim)
  · exact byteAt_wp q (fun on => ho_up st bv on)
  · show BV t (baY x y A s).2 J N
    unfold baY
    cases ex : hdA A x with
    | none => exact bv
    | some n =>
      dsimp only
      split
      · exact bv
      · exact bv
theorem law_1414 (g1 : ∀ k : Option (Int32 × tM), ckI (x4 + 1) L k = k) (g2 : ∀ k : Option (Int32 × tM), ckI (x4 + 2) L k = k) (ht : t ≤ 63) (hu : 1200000 ≤ fu) (hI : INV b0 t σ eb ob) : ∃ ρ, J_L_law_1414 b0 fu L xs rc (b0 + 0) (b0 + 35) (b0 + 73) x4 σ = J_L_law_1479 b0 fu L xs rc (b0 + 0) (b0 + 35) (b0 + 73) x4 ρ ∧ (tn σ ≤ tn ρ ∧ tu σ ≤ tu ρ) ∧ INV b0 (t + 1) ρ (eb + eT t) (ob + oT t) := by
  unfold J_L_law_1414 m_L_blockOf
  simp only [g1, g2]
  generalize xs (x4 + 1).toNatClampNeg = x
  generalize xs (x4 + 2).toNatClampNeg = y
  refine step_U (fu := fu) (mC := m_X10_blockOf b0 fu (b0 + 0) x y σ) (mR := fun τ => m_X12_blockOf b0 fu (b0 + 35) x y τ) (kk := fun ρ => J_L_law_1479 b0 fu L xs rc (b0 + 0) (b0 + 35) (b0 + 73) x4 ρ) (f := bkY x y) hI (fun C D A J N bi sp w c st bv => ?_) (fun C D A J N bi sp w c st bv τ q => ?_) (fun C D A J N bi sp w s ro bv => ?_)
  · rcases st_cs st with on | q
    · exact blockOf_c c st (bv.2.2.2 on).1.1
    · exact pubR_c (PH_good t) PH_ok c st (fun ro _ => (off_up q ro).elim)
  · exact blockOf_wp q (fun on => ho_up st bv on)
  · show BV t (bkY x y A s).2 J N
    unfold bkY
    cases ex : hdA A x with
    | none => exact bv
    | some n =>
      dsimp only
      split
      · exact bv
      · exact bv
end LAQ
