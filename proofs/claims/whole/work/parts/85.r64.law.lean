/-! ===== PURE: calls of the law: symlink ===== -/
section LAE
variable {b0 fu : Nat} {σ τ : tM} {bi sp : Nat → Nat} {w : Nat → Nat × Nat} {C : tS} {D D' : tD} {A B E : tS} {J J' : tJ} {K t un n N N' s e o eb ob v : Nat} {L : Nat} {xs : Nat → Int32} {rc : Nat → Nat → Nat → Int32 → tM → Option (Int32 × tM)} {x4 : Int32}
theorem mkY_r (h : mkOk B v) (s o : Nat) (h1 : o ≠ 67) (h2 : o ≠ 35) (h3 : o ≠ 36) (h4 : ¬ (47 ≤ o ∧ o ≤ 52)) (hk : okT B) : (mkY B v s).2 o = B o := by
  have w1 := wa1_o (w := 0) (s := s) B h1 h2
  obtain ⟨a1, a2, a3⟩ := wa_bd (w := 0) hk
  have n64 : mkN (wa1 B 0 s) ≤ 0 + 64 := (sr_le _ 64 0).2
  have nE : mkN (wa1 B 0 s) = mkN B := by
    unfold mkN nd
    rw [wa1_36]
  unfold mkY
  split
  · exact w1
  · rename_i c
    unfold mkX
    split
    · exact w1
    · split
      · exact w1
      · split
        · exact w1
        · split
          · exact w1
          · rename_i _ _ cN cl
            have ae := h s (by omega) (by omega) (by cases q : lkA (wa1 B 0 s) (waA B 0).toNat with | true => exact absurd q cl | false => rfl)
            have d1 : (waA B 0).toNat < 64 := by omega
            rw [← nE] at ae
            have k := KR_t (KR_mk (A := wa1 B 0 s) (n := mkN (wa1 B 0 s)) (d := (waA B 0).toNat) (v := v)) (KR_add (nm := wa1 B 0 s 67) (m := wa1 B 0 s 35 53) (v := mkN (wa1 B 0 s)) d1 (by have := ae.2.2.2.1; omega))
            show addA _ _ _ _ _ o = _
            rw [k.1 o h2 h3 h4]
            exact w1
theorem MV_r (h : HI B) : MV B B := ⟨KQ_le KQ_r (by omega), tQ_e rfl rfl, KG_r, h⟩
theorem law_431 (ht : t ≤ 63) (hu : 1200000 ≤ fu) (hI : INV b0 t σ eb ob) : ∃ ρ, J_L_law_431 b0 fu L xs rc (b0 + 0) (b0 + 35) (b0 + 73) x4 σ = J_L_law_472 b0 fu L xs rc (b0 + 0) (b0 + 35) (b0 + 73) x4 ρ ∧ (tn σ ≤ tn ρ ∧ tu σ ≤ tu ρ) ∧ INV b0 (t + 1) ρ (eb + eT t) (ob + oT t) := by
  unfold J_L_law_431 m_L_symlink
  refine step_T (fu := fu) (mC := m_X10_symlink b0 fu (b0 + 0) σ) (mR := fun τ => m_X12_symlink b0 fu (b0 + 35) τ) (kk := fun ρ => J_L_law_472 b0 fu L xs rc (b0 + 0) (b0 + 35) (b0 + 73) x4 ρ) (f := syY) ht hI (fun C D A J N bi sp w c st bv un hun K e o hd he ho => ?_) (fun C D A J N bi sp w c st bv τ q => ?_) (fun A p bi sp w C' D' s af hi pat h34 h57 ro => ?_)
  · obtain ⟨n1, n2, n3, n4⟩ := bv_N ht bv
    exact symlink_c (by omega) c st hd (bv_hg ht bv) (Nat.lt_of_le_of_lt (Nat.le_trans hun n1) (by decide)) he ho bv.1.1 (by omega) (by omega)
  · obtain ⟨n1, n2, n3, n4⟩ := bv_N ht bv
    obtain ⟨p1, p2, p3⟩ := ref_pre ht c st bv
    refine wp_mono (symlink_wp (fu := fu) q (by omega) p1 p2 hu (fun un p hun e => ?_)) (fun v τ' _ z => PQ_le z (by omega))
    obtain ⟨af, hi, bd, h34, h57, sp', C', D', ro⟩ := p3 un p hun e
    have mo := mk_ok ro.2.1 ro.2.2.1 (by omega) (Or.inr (Or.inr rfl)) (show p.1 35 34 + 6 < 1000000 by omega)
    exact ⟨bd, mo, fun s => ⟨mkY_r mo s 63 (by decide) (by decide) (by decide) (by omega) ro.2.1.ok, mkY_r mo s 64 (by decide) (by decide) (by decide) (by omega) ro.2.1.ok⟩⟩
  · show MV p.1 (syY p.1 s).2
    by_cases c1 : p.1 64 1 < 1
    · have e : syY p.1 s = (-9, p.1) := if_pos c1
      rw [e]
      exact MV_r hi
    · by_cases c2 : 80 < p.1 64 1
      · have e : syY p.1 s = (-9, p.1) := by
          unfold syY
          rw [if_neg c1, if_pos c2]
        rw [e]
        exact MV_r hi
      · rw [syY_R ro.2.1.ok (by omega) (by omega)]
        exact MV_mk hi ro.2.1 ro.2.2.1 (by omega) (Or.inr (Or.inr rfl)) (fun q => by omega)
end LAE
