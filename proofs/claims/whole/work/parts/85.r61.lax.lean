/-! ===== PURE: calls of the law: symlink, link, unlink, rmdir, rename ===== -/
section LAX
variable {b0 fu : Nat} {σ τ : tM} {bi sp : Nat → Nat} {w : Nat → Nat × Nat} {C : tS} {D D' : tD} {A B E : tS} {J J' : tJ} {K t un n N N' s e o eb ob : Nat} {L : Nat} {xs : Nat → Int32} {rc : Nat → Nat → Nat → Int32 → tM → Option (Int32 × tM)} {x4 : Int32}
theorem AZ_ph {v : Int32 ⊕ Unit} {X : Int × tP} (h : AZQ (PH t) b0 D K e o v τ X) : AZQ (PH (t + 1)) b0 D K e o v τ X := by
  rcases h with ⟨h1, h2, bi, sp, w, C', D', h3, h4, h5, h6⟩ | ⟨h1, h2, bi, sp, C', D', h3, h4, h5⟩
  · exact Or.inl ⟨h1, h2, bi, sp, w, C', D', h3, RO_ph (fun w A h => PH_mono h (Nat.le_succ _)) h4, h5, h6⟩
  · exact Or.inr ⟨h1, h2, bi, sp, C', D', h3, OF_ph (fun w A h => PH_mono h (Nat.le_succ _)) h4, h5⟩
theorem wa_SP (S : SR bi w C B) (P : PH t w B) : SR bi w C (wa1 B 0 s) ∧ PH t w (wa1 B 0 s) ∧ (∀ a i, nd (wa1 B 0 s) a i = nd B a i) ∧ wa1 B 0 s 35 34 = B 35 34 := ⟨SR_oth S (fun _ _ _ => rfl) (fun o ho => wa1_o B (by omega) (by omega)) (fun q hq => by
  unfold wa1
  rw [up2_j (by omega), cp67_o (by decide), up2_j (by omega)]), PH_good t w B _ (wa1_36 B) (wa1_7 B) P, fun a i => by
  unfold nd
  rw [wa1_36], by
  unfold wa1
  rw [up2_j (by decide), cp67_o (by decide), up2_j (by decide)]⟩
theorem law_475 (ht : t ≤ 63) (hu : 1200000 ≤ fu) (hI : INV b0 t σ eb ob) : ∃ ρ, J_L_law_475 b0 fu L xs rc (b0 + 0) (b0 + 35) (b0 + 73) x4 σ = J_L_law_516 b0 fu L xs rc (b0 + 0) (b0 + 35) (b0 + 73) x4 ρ ∧ (tn σ ≤ tn ρ ∧ tu σ ≤ tu ρ) ∧ INV b0 (t + 1) ρ (eb + eT t) (ob + oT t) := by
  unfold J_L_law_475 m_L_link
  refine step_T (fu := fu) (mC := m_X10_link b0 fu (b0 + 0) σ) (mR := fun τ => m_X12_link b0 fu (b0 + 35) τ) (kk := fun ρ => J_L_law_516 b0 fu L xs rc (b0 + 0) (b0 + 35) (b0 + 73) x4 ρ) (f := lnY) ht hI (fun C D A J N bi sp w c st bv un hun K e o hd he ho => ?_) (fun C D A J N bi sp w c st bv τ q => ?_) (fun A p bi sp w C' D' s af hi pat h34 h57 ro => MV_ln hi ro.2.1 ro.2.2.1 (by omega))
  · obtain ⟨n1, n2, n3, n4⟩ := bv_N ht bv
    exact link_c (by omega) c st hd (bv_hg ht bv) (Nat.lt_of_le_of_lt (Nat.le_trans hun n1) (by decide)) he ho bv.1.1 (by omega) (by omega)
  · obtain ⟨n1, n2, n3, n4⟩ := bv_N ht bv
    obtain ⟨p1, p2, p3⟩ := ref_pre ht c st bv
    refine wp_mono (link_wp (fu := fu) q (by omega) p1 p2 hu (fun un p hun e => ?_)) (fun v τ' _ z => PQ_le z (by omega))
    obtain ⟨af, hi, bd, h34, h57, sp', C', D', ro⟩ := p3 un p hun e
    exact ⟨bd, ln_ok ro.2.1 ro.2.2.1 ro.1.2.2.2.2.2.2.2.2.2 bd.1 (by omega) (by omega)⟩
theorem law_519 (ht : t ≤ 63) (hu : 1200000 ≤ fu) (hI : INV b0 t σ eb ob) : ∃ ρ, J_L_law_519 b0 fu L xs rc (b0 + 0) (b0 + 35) (b0 + 73) x4 σ = J_L_law_560 b0 fu L xs rc (b0 + 0) (b0 + 35) (b0 + 73) x4 ρ ∧ (tn σ ≤ tn ρ ∧ tu σ ≤ tu ρ) ∧ INV b0 (t + 1) ρ (eb + eT t) (ob + oT t) := by
  unfold J_L_law_519 m_L_unlink
  refine step_T (fu := fu) (mC := m_X10_unlink b0 fu (b0 + 0) σ) (mR := fun τ => m_X12_unlink b0 fu (b0 + 35) τ) (kk := fun ρ => J_L_law_560 b0 fu L xs rc (b0 + 0) (b0 + 35) (b0 + 73) x4 ρ) (f := fun A s => hdX A 0 s ulG) ht hI (fun C D A J N bi sp w c st bv un hun K e o hd he ho => ?_) (fun C D A J N bi sp w c st bv τ q => ?_) (fun A p bi sp w C' D' s af hi pat h34 h57 ro => MV_ul hi ro.2.1 ro.2.2.1 (by omega))
  · obtain ⟨n1, n2, n3, n4⟩ := bv_N ht bv
    exact wp_mono (unlink_c (by omega) c st hd (bv_hg ht bv) (Nat.lt_of_le_of_lt (Nat.le_trans hun n1) (by decide)) he ho bv.1.1) (fun v τ _ z s => AZ_ph (z s))
  · obtain ⟨n1, n2, n3, n4⟩ := bv_N ht bv
    obtain ⟨p1, p2, p3⟩ := ref_pre ht c st bv
    refine wp_mono (unlink_wp (fu := fu) q (by omega) p1 p2 hu (fun un p hun e => ?_)) (fun v τ' _ z => PQ_le z (by omega))
    obtain ⟨af, hi, bd, h34, h57, sp', C', D', ro⟩ := p3 un p hun e
    refine ⟨bd, fun s d hd => ?_⟩
    obtain ⟨S1, P1, nds, w34⟩ := wa_SP (s := s) ro.2.1 ro.2.2.1
    obtain ⟨a1, a2, a3⟩ := wa_bd (w := 0) ro.2.1.ok
    have d2 := a3 (by omega)
    rw [hd, Int.toNat_natCast] at d2
    exact ul_ok S1 P1 (by omega) (by omega) (by rw [nds]; exact d2) (by rw [w34]; omega)
theorem law_563 (ht : t ≤ 63) (hu : 1200000 ≤ fu) (hI : INV b0 t σ eb ob) : ∃ ρ, J_L_law_563 b0 fu L xs rc (b0 + 0) (b0 + 35) (b0 + 73) x4 σ = J_L_law_604 b0 fu L xs rc (b0 + 0) (b0 + 35) (b0 + 73) x4 ρ ∧ (tn σ ≤ tn ρ ∧ tu σ ≤ tu ρ) ∧ INV b0 (t + 1) ρ (eb + eT t) (ob + oT t) := by
  unfold J_L_law_563 m_L_rmdir
  refine step_T (fu := fu) (mC := m_X10_rmdir b0 fu (b0 + 0) σ) (mR := fun τ => m_X12_rmdir b0 fu (b0 + 35) τ) (kk := fun ρ => J_L_law_604 b0 fu L xs rc (b0 + 0) (b0 + 35) (b0 + 73) x4 ρ) (f := fun A s => hdX A 0 s rdG) ht hI (fun C D A J N bi sp w c st bv un hun K e o hd he ho => ?_) (fun C D A J N bi sp w c st bv τ q => ?_) (fun A p bi sp w C' D' s af hi pat h34 h57 ro => MV_rd hi ro.2.1 ro.2.2.1 (by omega))
  · obtain ⟨n1, n2, n3, n4⟩ := bv_N ht bv
    exact wp_mono (rmdir_c (by omega) c st hd (bv_hg ht bv) (Nat.lt_of_le_of_lt (Nat.le_trans hun n1) (by decide)) he ho bv.1.1) (fun v τ _ z s => AZ_ph (z s))
  · obtain ⟨n1, n2, n3, n4⟩ := bv_N ht bv
    obtain ⟨p1, p2, p3⟩ := ref_pre ht c st bv
    refine wp_mono (rmdir_wp (fu := fu) q (by omega) p1 p2 hu (fun un p hun e => ?_)) (fun v τ' _ z => PQ_le z (by omega))
    obtain ⟨af, hi, bd, h34, h57, sp', C', D', ro⟩ := p3 un p hun e
    refine ⟨bd, fun s d hd => ?_⟩
    obtain ⟨S1, P1, nds, w34⟩ := wa_SP (s := s) ro.2.1 ro.2.2.1
    obtain ⟨a1, a2, a3⟩ := wa_bd (w := 0) ro.2.1.ok
    have d2 := a3 (by omega)
    rw [hd, Int.toNat_natCast] at d2
    exact rd_ok S1 P1 (by omega) (by omega) (by rw [nds]; exact d2) (by rw [w34]; omega)
theorem law_607 (ht : t ≤ 63) (hu : 1200000 ≤ fu) (hI : INV b0 t σ eb ob) : ∃ ρ, J_L_law_607 b0 fu L xs rc (b0 + 0) (b0 + 35) (b0 + 73) x4 σ = J_L_law_648 b0 fu L xs rc (b0 + 0) (b0 + 35) (b0 + 73) x4 ρ ∧ (tn σ ≤ tn ρ ∧ tu σ ≤ tu ρ) ∧ INV b0 (t + 1) ρ (eb + eT t) (ob + oT t) := by
  unfold J_L_law_607 m_L_rename
  refine step_T (fu := fu) (mC := m_X10_rename b0 fu (b0 + 0) σ) (mR := fun τ => m_X12_rename b0 fu (b0 + 35) τ) (kk := fun ρ => J_L_law_648 b0 fu L xs rc (b0 + 0) (b0 + 35) (b0 + 73) x4 ρ) (f := fun A s => hdX A 0 s rnG) ht hI (fun C D A J N bi sp w c st bv un hun K e o hd he ho => ?_) (fun C D A J N bi sp w c st bv τ q => ?_) (fun A p bi sp w C' D' s af hi pat h34 h57 ro => MV_rn hi ro.2.1 ro.2.2.1 ro.1.2.2.2.2.2.2.2.2.2 pat ht (by omega))
  · obtain ⟨n1, n2, n3, n4⟩ := bv_N ht bv
    exact rename_c (by omega) c st hd (bv_hg ht bv) (Nat.lt_of_le_of_lt (Nat.le_trans hun n1) (by decide)) he ho bv.1.1 (by omega) (by omega)
  · obtain ⟨n1, n2, n3, n4⟩ := bv_N ht bv
    obtain ⟨p1, p2, p3⟩ := ref_pre ht c st bv
    refine wp_mono (rename_wp (fu := fu) q (by omega) p1 p2 hu (fun un p hun e => ?_)) (fun v τ' _ z => PQ_le z (by omega))
    obtain ⟨af, hi, bd, h34, h57, sp', C', D', ro⟩ := p3 un p hun e
    exact ⟨bd, rn_ok ro.2.1 ro.2.2.1 ro.1.2.2.2.2.2.2.2.2.2 bd.1 ht (by omega)⟩
end LAX
