/-! ===== PURE: calls of the law: write, fill, truncate ===== -/
section LAD
variable {b0 fu : Nat} {σ τ : tM} {bi sp : Nat → Nat} {w : Nat → Nat × Nat} {C : tS} {D D' : tD} {A B E : tS} {J J' : tJ} {K t un n N N' s e o eb ob : Nat} {L : Nat} {xs : Nat → Int32} {rc : Nat → Nat → Nat → Int32 → tM → Option (Int32 × tM)} {x4 : Int32}
theorem law_923 (g : ∀ k : Option (Int32 × tM), ckI (x4 + 1) L k = k) (g2 : ∀ k : Option (Int32 × tM), ckI (x4 + 2) L k = k) (ht : t ≤ 63) (hu : 1200000 ≤ fu) (hI : INV b0 t σ eb ob) : ∃ ρ, J_L_law_923 b0 fu L xs rc (b0 + 0) (b0 + 35) (b0 + 73) x4 σ = J_L_law_988 b0 fu L xs rc (b0 + 0) (b0 + 35) (b0 + 73) x4 ρ ∧ (tn σ ≤ tn ρ ∧ tu σ ≤ tu ρ) ∧ INV b0 (t + 1) ρ (eb + eT t) (ob + oT t) := by
  unfold J_L_law_923 m_L_truncate
  simp only [g, g2]
  generalize xs (x4 + 1).toNatClampNeg = x
  generalize xs (x4 + 2).toNatClampNeg = y
  refine step_T (fu := fu) (mC := m_X10_truncate b0 fu (b0 + 0) x y σ) (mR := fun τ => m_X12_truncate b0 fu (b0 + 35) x y τ) (kk := fun ρ => J_L_law_988 b0 fu L xs rc (b0 + 0) (b0 + 35) (b0 + 73) x4 ρ) (f := trY x y) ht hI (fun C D A J N bi sp w c st bv un hun K e o hd he ho => ?_) (fun C D A J N bi sp w c st bv τ q => ?_) (fun A p bi sp w C' D' s af hi pat h34 h57 ro => MV_tr hi ro.2.1 ro.2.2.1)
  · obtain ⟨n1, n2, n3, n4⟩ := bv_N ht bv
    rcases st_cs st with on | q
    · exact wp_mono (truncate_c (by omega) c st hd (bv_hg ht bv) (Nat.lt_of_le_of_lt (Nat.le_trans hun n1) (by decide)) he ho (bv.2.2.2 on).1.1) (fun v τ _ z s => AZ_ph (z s))
    · exact pubO_c (PH_good t) PH_ok (fun _ _ h => PH_mono h (Nat.le_succ _)) c q he ho
  · obtain ⟨n1, n2, n3, n4⟩ := bv_N ht bv
    obtain ⟨p1, p2, p3⟩ := ref_pre ht c st bv
    refine wp_mono (truncate_wp (fu := fu) q (by omega) p1 p2 hu (fun un p hun e n ex => ?_)) (fun v τ' _ z => PQ_le z (by omega))
    obtain ⟨af, hi, bd, h34, h57, sp', C', D', ro⟩ := p3 un p hun e
    obtain ⟨n1, n2⟩ := hd_HO hi.1 ex
    refine ⟨n1, fun size hs => ?_⟩
    have b1 := (nd_k ro.2.1.ok n1).2.1
    obtain ⟨q1, q2, q3⟩ := SR_z0 (sz := size) (e := size) ro.2.1 n1 n2 (by omega) (by omega)
    exact dd_ok n1 _ _ _ q1 q2 (by omega) (by rw [q3]; omega)
theorem wrF_le {len : Int32} (h57 : B 35 57 ≤ 4000) (h : wrF B len = true) (_ : ¬ len < 0) : len.toNatClampNeg ≤ 16384 := by
  unfold wrF at h
  have h1 : ¬ nI (B 35 57) < len := by
    intro c
    rw [decide_eq_true c] at h
    cases h
  have e : (nI (B 35 57)).toInt = (B 35 57 : Int) := nI_toInt (by omega)
  rw [Int32.lt_iff_toInt_lt, e] at h1
  unfold Int32.toNatClampNeg
  omega
theorem fiF_le {len v : Int32} (h : fiF len v = true) (_ : ¬ len < 0) : len.toNatClampNeg ≤ 16384 := by
  unfold fiF at h
  have h1 : ¬ (16384 : Int32) < len := by
    intro c
    rw [decide_eq_true (Or.inl c)] at h
    cases h
  have e : (16384 : Int32).toInt = 16384 := by decide
  rw [Int32.lt_iff_toInt_lt, e] at h1
  unfold Int32.toNatClampNeg
  omega
theorem law_751 (g : ∀ k : Option (Int32 × tM), ckI (x4 + 1) L k = k) (g2 : ∀ k : Option (Int32 × tM), ckI (x4 + 2) L k = k) (g3 : ∀ k : Option (Int32 × tM), ckI (x4 + 3) L k = k) (ht : t ≤ 63) (hu : 1200000 ≤ fu) (hI : INV b0 t σ eb ob) : ∃ ρ, J_L_law_751 b0 fu L xs rc (b0 + 0) (b0 + 35) (b0 + 73) x4 σ = J_L_law_828 b0 fu L xs rc (b0 + 0) (b0 + 35) (b0 + 73) x4 ρ ∧ (tn σ ≤ tn ρ ∧ tu σ ≤ tu ρ) ∧ INV b0 (t + 1) ρ (eb + eT t) (ob + oT t) := by
  unfold J_L_law_751 m_L_write
  simp only [g, g2, g3]
  generalize xs (x4 + 1).toNatClampNeg = x
  generalize xs (x4 + 2).toNatClampNeg = y
  generalize xs (x4 + 3).toNatClampNeg = l
  refine step_T (fu := fu) (mC := m_X10_write b0 fu (b0 + 0) x y l σ) (mR := fun τ => m_X12_write b0 fu (b0 + 35) x y l τ) (kk := fun ρ => J_L_law_828 b0 fu L xs rc (b0 + 0) (b0 + 35) (b0 + 73) x4 ρ) (f := wrY x y l) ht hI (fun C D A J N bi sp w c st bv un hun K e o hd he ho => ?_) (fun C D A J N bi sp w c st bv τ q => ?_) (fun A p bi sp w C' D' s af hi pat h34 h57 ro => MV_wr hi ro.2.1 ro.2.2.1 (wrF_le h57) (by omega))
  · obtain ⟨n1, n2, n3, n4⟩ := bv_N ht bv
    rcases st_cs st with on | q
    · exact wp_mono (write_c (by omega) c st hd (bv_hg ht bv) (Nat.lt_of_le_of_lt (Nat.le_trans hun n1) (by decide)) he ho (bv.2.2.2 on).1.1 (by omega) bv.1.2.1) (fun v τ _ z s => AZ_ph (z s))
    · exact pubO_c (PH_good t) PH_ok (fun _ _ h => PH_mono h (Nat.le_succ _)) c q he ho
  · obtain ⟨n1, n2, n3, n4⟩ := bv_N ht bv
    obtain ⟨p1, p2, p3⟩ := ref_pre ht c st bv
    refine wp_mono (write_wp (fu := fu) q (by omega) p1 p2 hu (fun un p hun e => ?_)) (fun v τ' _ z => PQ_le z (by omega))
    obtain ⟨af, hi, bd, h34, h57, sp', C', D', ro⟩ := p3 un p hun e
    exact ⟨h57, hb_ok ro.2.1 ro.2.2.1 hi.1 (wrF_le h57) (by omega)⟩
theorem law_831 (g : ∀ k : Option (Int32 × tM), ckI (x4 + 1) L k = k) (g2 : ∀ k : Option (Int32 × tM), ckI (x4 + 2) L k = k) (g3 : ∀ k : Option (Int32 × tM), ckI (x4 + 3) L k = k) (g4 : ∀ k : Option (Int32 × tM), ckI (x4 + 4) L k = k) (ht : t ≤ 63) (hu : 1200000 ≤ fu) (hI : INV b0 t σ eb ob) : ∃ ρ, J_L_law_831 b0 fu L xs rc (b0 + 0) (b0 + 35) (b0 + 73) x4 σ = J_L_law_920 b0 fu L xs rc (b0 + 0) (b0 + 35) (b0 + 73) x4 ρ ∧ (tn σ ≤ tn ρ ∧ tu σ ≤ tu ρ) ∧ INV b0 (t + 1) ρ (eb + eT t) (ob + oT t) := by
  unfold J_L_law_831 m_L_fill
  simp only [g, g2, g3, g4]
  generalize xs (x4 + 1).toNatClampNeg = x
  generalize xs (x4 + 2).toNatClampNeg = y
  generalize xs (x4 + 3).toNatClampNeg = l
  generalize xs (x4 + 4).toNatClampNeg = v
  refine step_T (fu := fu) (mC := m_X10_fill b0 fu (b0 + 0) x y l v σ) (mR := fun τ => m_X12_fill b0 fu (b0 + 35) x y l v τ) (kk := fun ρ => J_L_law_920 b0 fu L xs rc (b0 + 0) (b0 + 35) (b0 + 73) x4 ρ) (f := fiY x y l v) ht hI (fun C D A J N bi sp w c st bv un hun K e o hd he ho => ?_) (fun C D A J N bi sp w c st bv τ q => ?_) (fun A p bi sp w C' D' s af hi pat h34 h57 ro => MV_hb hi ro.2.1 ro.2.2.1 fiF_le (by omega))
  · obtain ⟨n1, n2, n3, n4⟩ := bv_N ht bv
    rcases st_cs st with on | q
    · exact wp_mono (fill_c (by omega) c st hd (bv_hg ht bv) (Nat.lt_of_le_of_lt (Nat.le_trans hun n1) (by decide)) he ho (bv.2.2.2 on).1.1 (by omega)) (fun v τ _ z s => AZ_ph (z s))
    · exact pubO_c (PH_good t) PH_ok (fun _ _ h => PH_mono h (Nat.le_succ _)) c q he ho
  · obtain ⟨n1, n2, n3, n4⟩ := bv_N ht bv
    obtain ⟨p1, p2, p3⟩ := ref_pre ht c st bv
    refine wp_mono (fill_wp (fu := fu) q (by omega) p1 p2 hu (fun un p hun e => ?_)) (fun v τ' _ z => PQ_le z (by omega))
    obtain ⟨af, hi, bd, h34, h57, sp', C', D', ro⟩ := p3 un p hun e
    exact hb_ok ro.2.1 ro.2.2.1 hi.1 fiF_le (by omega)
end LAD
