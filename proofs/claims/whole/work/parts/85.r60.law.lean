/-! ===== PURE: calls of the law: create, mkdir ===== -/
section LAW
variable {b0 fu : Nat} {σ τ : tM} {bi sp : Nat → Nat} {w : Nat → Nat × Nat} {C : tS} {D D' : tD} {A B E : tS} {J J' : tJ} {K t un n N N' s e o eb ob : Nat}
theorem dirs_ok (P : PH t w A) (ht : t < 1000) : dirsOk A := fun d hd h2 => dir_ok P.di hd h2 (by have := (P.sf d hd h2).1; omega)
theorem bv_N (ht : t ≤ 63) (h : BV t A J N) : N ≤ 42800 ∧ A 35 34 ≤ 25200 ∧ A 35 28 ≤ 63 ∧ J.2.2.1 ≤ 50400 := by
  obtain ⟨-, ⟨-, h1, h2, h3, -, -⟩, ⟨h4, -⟩, -⟩ := h
  exact ⟨Nat.le_trans h3 (Nat.add_le_add_left (Nat.mul_le_mul_left 600 ht) 5000), Nat.le_trans h2 (Nat.mul_le_mul_left 400 ht), Nat.le_trans h1 ht, Nat.le_trans h4 (Nat.mul_le_mul_left 800 ht)⟩
/-- what the reference's side of a call finds -/
theorem ref_pre (ht : t ≤ 63) (c : CM b0 σ C D) (st : ST (PH t) bi sp w C D A J) (bv : BV t A J N) : A 35 6 ≤ 4096 ∧ uaOk (up2 A 35 0 0) J ∧ ∀ un p, un ≤ N → uaX (up2 A 35 0 0) J un = .inl p → AF A p.1 ∧ HI p.1 ∧ bdOk p.1 ∧ p.1 35 34 + 310 < 1000000 ∧ p.1 35 57 ≤ 4000 ∧ ∃ sp' C' D', RO (PH t) bi sp' w C' D' p.1 p.2 := by
  obtain ⟨n1, n2, n3, n4⟩ := bv_N ht bv
  have hd := bv.2.1.1
  refine ⟨hd.1, ua_ok (K := 0) (PH_good t) PH_ok c st (dsk_le hd (by omega)) (by omega) (fun q => (bv.2.2.2 q).2.2.1) (by omega) (by omega), fun un p hun e => ?_⟩
  have q : RO (PH t) bi sp w C D A J := by
    rcases st with q | q
    · exact q
    · have ux : uaX (up2 A 35 0 0) J un = .inr (up2 A 35 0 0, J) := if_pos (by rw [up2_j (by decide)]; exact q.2.1)
      rw [ux] at e
      cases e
  have on : A 35 18 = 1 := q.2.2.2.2.2.2.1
  obtain ⟨i1, i2, i3, i4⟩ := bv.2.2.2 on
  obtain ⟨af, sp', C', D', ro, -⟩ := ua_RO (K := 0) (PH_good t) PH_ok c q (dsk_le hd (by omega)) ⟨i3, Nat.lt_of_le_of_lt (Nat.add_le_add_right n2 1) (by decide), Nat.lt_of_le_of_lt (Nat.add_le_add_right n3 1) (by decide)⟩ (Nat.lt_of_le_of_lt (Nat.le_trans hun n1) (by decide)) e
  have a34 := af.2.2.1.2
  have P := ro.2.2.1
  exact ⟨af, HI_kw i1 (KWn_e (af.1 36 (by decide) (by omega) (by omega)) (af.1 71 (by decide) (by omega) (by omega))), ⟨AF_pat af bv.1.1, dirs_ok P (Nat.lt_of_le_of_lt ht (by decide)), ro.2.1.zm.1.2.2.2.1⟩, Nat.lt_of_le_of_lt (Nat.add_le_add_right (Nat.le_trans a34 (Nat.add_le_add_right n2 1)) 310) (by decide), by rw [af.2.1.2.2.2]; exact bv.1.2.1, sp', C', D', ro⟩
theorem PQ_le {f : tS → Nat → Int × tS} {v : Int32} (h : PQ b0 N N' A J f v τ) (hn : N' ≤ N + 600) : PQ b0 N (N + 600) A J f v τ := by
  obtain ⟨un, s, h1, h2, h3⟩ := h
  exact ⟨un, s, h1, h2, RM_le h3 hn⟩
theorem bv_hg (ht : t ≤ 63) (bv : BV t A J N) : A 35 18 = 1 → gsA A ≤ A 35 6 ∧ A 35 34 + 1 < 1000000 ∧ A 35 28 + 1 < 1000 := fun q => by
  obtain ⟨n1, n2, n3, n4⟩ := bv_N ht bv
  exact ⟨(bv.2.2.2 q).2.2.1, Nat.lt_of_le_of_lt (Nat.add_le_add_right n2 1) (by decide), Nat.lt_of_le_of_lt (Nat.add_le_add_right n3 1) (by decide)⟩
theorem law_343 {L : Nat} {xs : Nat → Int32} {rc : Nat → Nat → Nat → Int32 → tM → Option (Int32 × tM)} {x4 : Int32} (ht : t ≤ 63) (hu : 1200000 ≤ fu) (hI : INV b0 t σ eb ob) : ∃ ρ, J_L_law_343 b0 fu L xs rc (b0 + 0) (b0 + 35) (b0 + 73) x4 σ = J_L_law_384 b0 fu L xs rc (b0 + 0) (b0 + 35) (b0 + 73) x4 ρ ∧ (tn σ ≤ tn ρ ∧ tu σ ≤ tu ρ) ∧ INV b0 (t + 1) ρ (eb + eT t) (ob + oT t) := by
  unfold J_L_law_343 m_L_create
  refine step_T (fu := fu) (mC := m_X10_create b0 fu (b0 + 0) σ) (mR := fun τ => m_X12_create b0 fu (b0 + 35) τ) (kk := fun ρ => J_L_law_384 b0 fu L xs rc (b0 + 0) (b0 + 35) (b0 + 73) x4 ρ) (f := fun A s => mkY A 1 s) ht hI (fun C D A J N bi sp w c st bv un hun K e o hd he ho => ?_) (fun C D A J N bi sp w c st bv τ q => ?_) (fun A p bi sp w C' D' s af hi pat h34 h57 ro => ?_)
  · obtain ⟨n1, n2, n3, n4⟩ := bv_N ht bv
    exact create_c (by omega) c st hd (bv_hg ht bv) (Nat.lt_of_le_of_lt (Nat.le_trans hun n1) (by decide)) he ho bv.1.1 (by omega) (by omega)
  · obtain ⟨n1, n2, n3, n4⟩ := bv_N ht bv
    obtain ⟨p1, p2, p3⟩ := ref_pre ht c st bv
    refine wp_mono (create_wp (fu := fu) q (by omega) p1 p2 hu (fun un p hun e => ?_)) (fun v τ' _ z => PQ_le z (by omega))
    obtain ⟨af, hi, bd, h34, h57, sp', C', D', ro⟩ := p3 un p hun e
    exact ⟨bd, mk_ok ro.2.1 ro.2.2.1 (by omega) (Or.inl rfl) (by omega)⟩
  · have e : mkY p.1 1 s = mkR p.1 1 s := mkY_12 ro.2.1.ok (by decide)
    show MV p.1 (mkY p.1 1 s).2
    rw [e]
    exact MV_mk hi ro.2.1 ro.2.2.1 (by omega) (Or.inl rfl) (fun q => by omega)
theorem law_387 {L : Nat} {xs : Nat → Int32} {rc : Nat → Nat → Nat → Int32 → tM → Option (Int32 × tM)} {x4 : Int32} (ht : t ≤ 63) (hu : 1200000 ≤ fu) (hI : INV b0 t σ eb ob) : ∃ ρ, J_L_law_387 b0 fu L xs rc (b0 + 0) (b0 + 35) (b0 + 73) x4 σ = J_L_law_428 b0 fu L xs rc (b0 + 0) (b0 + 35) (b0 + 73) x4 ρ ∧ (tn σ ≤ tn ρ ∧ tu σ ≤ tu ρ) ∧ INV b0 (t + 1) ρ (eb + eT t) (ob + oT t) := by
  unfold J_L_law_387 m_L_mkdir
  refine step_T (fu := fu) (mC := m_X10_mkdir b0 fu (b0 + 0) σ) (mR := fun τ => m_X12_mkdir b0 fu (b0 + 35) τ) (kk := fun ρ => J_L_law_428 b0 fu L xs rc (b0 + 0) (b0 + 35) (b0 + 73) x4 ρ) (f := fun A s => mkY A 2 s) ht hI (fun C D A J N bi sp w c st bv un hun K e o hd he ho => ?_) (fun C D A J N bi sp w c st bv τ q => ?_) (fun A p bi sp w C' D' s af hi pat h34 h57 ro => ?_)
  · obtain ⟨n1, n2, n3, n4⟩ := bv_N ht bv
    exact mkdir_c (by omega) c st hd (bv_hg ht bv) (Nat.lt_of_le_of_lt (Nat.le_trans hun n1) (by decide)) he ho bv.1.1 (by omega) (by omega)
  · obtain ⟨n1, n2, n3, n4⟩ := bv_N ht bv
    obtain ⟨p1, p2, p3⟩ := ref_pre ht c st bv
    refine wp_mono (mkdir_wp (fu := fu) q (by omega) p1 p2 hu (fun un p hun e => ?_)) (fun v τ' _ z => PQ_le z (by omega))
    obtain ⟨af, hi, bd, h34, h57, sp', C', D', ro⟩ := p3 un p hun e
    exact ⟨bd, mk_ok ro.2.1 ro.2.2.1 (by omega) (Or.inr (Or.inl rfl)) (by omega)⟩
  · have e : mkY p.1 2 s = mkR p.1 2 s := mkY_12 ro.2.1.ok (by decide)
    show MV p.1 (mkY p.1 2 s).2
    rw [e]
    exact MV_mk hi ro.2.1 ro.2.2.1 (by omega) (Or.inr (Or.inl rfl)) (fun q => by omega)
end LAW
