/-! ===== PURE: calls of the law: info ===== -/
section LAI
variable {b0 fu : Nat} {σ τ : tM} {bi sp : Nat → Nat} {w : Nat → Nat × Nat} {C : tS} {D D' : tD} {A B E : tS} {J J' : tJ} {K t un n N N' s e o eb ob v : Nat} {L : Nat} {xs : Nat → Int32} {rc : Nat → Nat → Nat → Int32 → tM → Option (Int32 × tM)} {x4 : Int32}
theorem law_1138 (g1 : ∀ k : Option (Int32 × tM), ckI (x4 + 1) L k = k) (g2 : ∀ k : Option (Int32 × tM), ckI (x4 + 2) L k = k) (ht : t ≤ 63) (hu : 1200000 ≤ fu) (hI : INV b0 t σ eb ob) : ∃ ρ, J_L_law_1138 b0 fu L xs rc (b0 + 0) (b0 + 35) (b0 + 73) x4 σ = J_L_law_1219 b0 fu L xs rc (b0 + 0) (b0 + 35) (b0 + 73) x4 ρ ∧ (tn σ ≤ tn ρ ∧ tu σ ≤ tu ρ) ∧ INV b0 (t + 1) ρ (eb + eT t) (ob + oT t) := by
  unfold J_L_law_1138 J_L_law_1159 J_L_law_1186 m_L_info
  simp only [g1, g2]
  generalize xs (x4 + 1).toNatClampNeg = x
  generalize xs (x4 + 2).toNatClampNeg = y
  have go : ∀ fo : Bool, ∃ ρ, cll (grw σ (ckO b0 σ (b0 + 0) 10 (cly (m_X10_info b0 fu (b0 + 0) x (nI (b2n fo)) σ) (fun v3 ρ4 => ckR b0 ρ4 (b0 + 73) 3 (fun n8 => ckI 0 n8 (some ((0 : Int32), sL ρ4 (b0 + 73) ((0 : Int32).toNatClampNeg) v3.toInt64)))) (fun ρ11 => some (1, ρ11))))) (fun v71 ρ72 => ckO b0 ρ72 (b0 + 35) 11 (cll (m_X12_info b0 fu (b0 + 35) x (nI (b2n fo)) ρ72) (fun v76 ρ77 => ckO b0 ρ77 (b0 + 35) 11 (cll (m_X12_thrown b0 fu (b0 + 35) ρ77) (fun v81 ρ82 => if v81 = v71 then if v71 = 0 then ckR b0 ρ82 (b0 + 73) 3 (fun n88 => ckI 0 n88 (if lg_cmp (tL ρ82 (b0 + 73) ((0 : Int32).toNatClampNeg)) v76.toInt64 = 0 then J_L_law_1219 b0 fu L xs rc (b0 + 0) (b0 + 35) (b0 + 73) x4 ρ82 else some (0, ρ82))) else J_L_law_1219 b0 fu L xs rc (b0 + 0) (b0 + 35) (b0 + 73) x4 ρ82 else some (0, ρ82)))))) = J_L_law_1219 b0 fu L xs rc (b0 + 0) (b0 + 35) (b0 + 73) x4 ρ ∧ (tn σ ≤ tn ρ ∧ tu σ ≤ tu ρ) ∧ INV b0 (t + 1) ρ (eb + eT t) (ob + oT t) := fun fo => by
    refine step_U (fu := fu) (mC := m_X10_info b0 fu (b0 + 0) x (nI (b2n fo)) σ) (mR := fun τ => m_X12_info b0 fu (b0 + 35) x (nI (b2n fo)) τ) (kk := fun ρ => J_L_law_1219 b0 fu L xs rc (b0 + 0) (b0 + 35) (b0 + 73) x4 ρ) (f := inY x fo) hI (fun C D A J N bi sp w c st bv => ?_) (fun C D A J N bi sp w c st bv τ q => ?_) (fun C D A J N bi sp w s ro bv => ?_)
    · exact info_c (by omega) c st bv.1.1
    · exact info_wp q (fun on => bd_up ht st bv on) (by omega)
    · show BV t (inY x fo A s).2 J N
      unfold inY
      have b51 := bv_sC bv (sC_51 (s := s)) (up2_rown (by decide))
      repeat' split
      all_goals first | exact bv | exact b51
  by_cases c : y = 0
  · simp only [if_pos c]
    exact go false
  · simp only [if_neg c]
    exact go true
end LAI
