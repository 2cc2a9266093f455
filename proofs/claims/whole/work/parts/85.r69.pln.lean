/-! ===== PURE: calls of the law that are compared as they are ===== -/
section LAP
variable {Φ : tPh} {b0 fu : Nat} {σ τ : tM} {bi sp : Nat → Nat} {w : Nat → Nat × Nat} {C : tS} {D D' : tD} {A B E : tS} {J J' : tJ} {K t un n N N' s e o eb ob v : Nat} {L : Nat} {xs : Nat → Int32} {rc : Nat → Nat → Nat → Int32 → tM → Option (Int32 × tM)} {x4 : Int32}
theorem pl_w {mC : Option (Int32 × tM)} {mR : tM → Option (Int32 × tM)} {kk : tM → Option (Int32 × tM)} {X : Int × tP} (hT : tk σ (b0 + 73) = .inr (3, 1)) (h : CM b0 σ C D) (hm : RM b0 J σ A N)
    (hC : wp (FC b0) σ mC (fun v τ => v = iz X.1 ∧ ∃ bi sp w C' D', CM b0 τ C' D' ∧ ST Φ bi sp w C' D' X.2.1 X.2.2 ∧ EL D D' e o))
    (hR : ∀ τ, RM b0 J τ A N → wp (FR b0) τ (mR τ) (fun v τ' => v = iz X.1 ∧ RM b0 X.2.2 τ' X.2.1 N')) :
    ∃ ρ, ckO b0 σ (b0 + 0) 10 (cll mC (fun v1 ρ1 => ckO b0 ρ1 (b0 + 35) 11 (cll (mR ρ1) (fun v2 ρ2 => if v1 = v2 then kk ρ2 else some (0, ρ2))))) = kk ρ ∧ (tn σ ≤ tn ρ ∧ tu σ ≤ tu ρ) ∧ tk ρ (b0 + 73) = .inr (3, 1) ∧ ∃ bi sp w C' D', RM b0 X.2.2 ρ X.2.1 N' ∧ CM b0 ρ C' D' ∧ ST Φ bi sp w C' D' X.2.1 X.2.2 ∧ EL D D' e o := by
  have L := h.lay
  have h74 := L.1
  obtain ⟨v, τ, eC, fC, ev, bi, sp, w, C', D', c, st, el⟩ := hC
  have kτ : tk τ (b0 + 73) = .inr (3, 1) := by rw [(fC.2.2 _ (Or.inr rfl)).1]; exact hT
  have nτ := fC.1
  have hmτ := RM_FC hm fC
  obtain ⟨v2, ρ, eR, fR, ev2, hm'⟩ := hR τ hmτ
  have sm := fR.2.2.2.2.1 (b0 + 73) (by omega) (fun q => (c.rf _ q).2.1 rfl)
  refine ⟨ρ, ?_, ⟨Nat.le_trans fC.1 fR.1, Nat.le_trans fC.2.1 fR.2.1⟩, by rw [sm.1]; exact kτ, bi, sp, w, C', D', hm', CM_FR c hmτ fR hm', st, el⟩
  rw [ckC_0 L, eC, cll_some, ckR_35 hmτ.ra.lay, eR, cll_some, ev, ev2, if_pos rfl]
theorem bv_cg (h : BV t A J N) (hp : patOk B) (h57 : B 35 57 ≤ 4000) (h68 : ∀ b, 6200 ≤ b → B 68 b = 0) (r : ∀ o, o = 36 ∨ o = 42 ∨ o = 43 ∨ o = 50 ∨ o = 51 ∨ o = 52 ∨ o = 71 → B o = A o) (f : ∀ q, q = 6 ∨ q = 7 ∨ q = 15 ∨ q = 16 ∨ q = 20 ∨ q = 21 ∨ q = 28 ∨ q = 34 → B 35 q = A 35 q) (on : B 35 18 = 1 → A 35 18 = 1) : BV t B J N := by
  obtain ⟨⟨b1, b2, b3⟩, ⟨b4, b5, b6, b7, i5, i6⟩, b8, b10⟩ := h
  have tc : tcA B = tcA A := by
    unfold tcA
    rw [r 51 (by omega)]
  have rc : rcA B = rcA A := by
    unfold rcA
    rw [r 52 (by omega)]
  have gs : gsA B = gsA A := by
    unfold gsA
    rw [tc, rc]
  refine ⟨⟨hp, h57, h68⟩, ⟨dsk_cg b4 (fun q hq => f q (by omega)) (r 42 (by omega)) (r 43 (by omega)), by rw [f 28 (by omega)]; exact b5, by rw [f 34 (by omega)]; exact b6, b7, by rw [tc]; exact i5, by rw [rc]; exact i6⟩, b8, fun q => ?_⟩
  obtain ⟨c1, c2, c3, c4⟩ := b10 (on q)
  refine ⟨HI_kw c1 ⟨fun m _ => ?_, r 71 (by omega)⟩, ?_, by rw [gs, f 6 (by omega)]; exact c3, by rw [tc, rc]; exact c4⟩
  · unfold nd
    rw [r 36 (by omega)]
    exact ⟨rfl, rfl⟩
  · unfold CHG TK at c2 ⊢
    rw [r 50 (by omega), r 51 (by omega)]
    exact c2
theorem ST_suc (h : ST (PH t) bi sp w C D A J) : ST (PH (t + 1)) bi sp w C D A J := by
  rcases h with q | q
  · exact Or.inl (RO_ph (fun w A h => PH_mono h (Nat.le_succ _)) q)
  · exact Or.inr (OF_ph (fun w A h => PH_mono h (Nat.le_succ _)) q)
/-- a method that only answers -/
theorem step_N {mC : Option (Int32 × tM)} {mR : tM → Option (Int32 × tM)} {kk : tM → Option (Int32 × tM)} {X : tS → tJ → Int × tS} (hI : INV b0 t σ eb ob)
    (hC : ∀ C D A J N bi sp w, CM b0 σ C D → ST (PH t) bi sp w C D A J → BV t A J N → wp (FC b0) σ mC (fun v τ => NZ (PH t) b0 bi sp w D J v τ (X A J)))
    (hR : ∀ C D A J N bi sp w, CM b0 σ C D → ST (PH t) bi sp w C D A J → BV t A J N → ∀ τ, RM b0 J τ A N → wp (FR b0) τ (mR τ) (fun v τ' => v = iz (X A J).1 ∧ RM b0 J τ' (X A J).2 N))
    (hf : ∀ C D A J N bi sp w, ST (PH t) bi sp w C D A J → BV t A J N → BV t (X A J).2 J N) :
    ∃ ρ, ckO b0 σ (b0 + 0) 10 (cll mC (fun v1 ρ1 => ckO b0 ρ1 (b0 + 35) 11 (cll (mR ρ1) (fun v2 ρ2 => if v1 = v2 then kk ρ2 else some (0, ρ2))))) = kk ρ ∧ (tn σ ≤ tn ρ ∧ tu σ ≤ tu ρ) ∧ INV b0 (t + 1) ρ (eb + eT t) (ob + oT t) := by
  obtain ⟨C, D, A, J, N, bi, sp, w, i1, i2, i3, i4, i5, i6, i7⟩ := hI
  obtain ⟨ρ, e1, e2, e3, bi', sp', w', C', D', r2, r3, r4, r5⟩ := pl_w (Φ := PH t) (mC := mC) (mR := mR) (kk := kk) (X := ((X A J).1, ((X A J).2, J))) (e := 0) (o := 0) (N' := N) i1 i2 i3 (wp_mono (hC C D A J N bi sp w i2 i4 i5) (fun v τ _ q => by
      obtain ⟨q1, -, C', q2, q3⟩ := q
      exact ⟨q1, bi, sp, w, C', D, q2, q3, EL_r⟩)) (fun τ q => hR C D A J N bi sp w i2 i4 i5 τ q)
  have r5 : EL D D' (eT t) (oT t) := EL_le r5 (Nat.zero_le _) (Nat.zero_le _)
  exact ⟨ρ, e1, e2, C', D', (X A J).2, J, N, bi', sp', w', e3, r3, r2, ST_suc r4, bv_suc (hf C D A J N bi sp w i4 i5), ar_k r5.1 i6, ar_k2 r5.2 i7⟩
theorem law_233 (g1 : ∀ k : Option (Int32 × tM), ckI (x4 + 1) L k = k) (g2 : ∀ k : Option (Int32 × tM), ckI (x4 + 2) L k = k) (g3 : ∀ k : Option (Int32 × tM), ckI (x4 + 3) L k = k) (g4 : ∀ k : Option (Int32 × tM), ckI (x4 + 4) L k = k) (g5 : ∀ k : Option (Int32 × tM), ckI (x4 + 5) L k = k) (hu : 1200000 ≤ fu) (hI : INV b0 t σ eb ob) : ∃ ρ, J_L_law_233 b0 fu L xs rc (b0 + 0) (b0 + 35) (b0 + 73) x4 σ = J_L_law_2051 b0 fu L xs rc (b0 + 0) (b0 + 35) (b0 + 73) x4 ρ ∧ (tn σ ≤ tn ρ ∧ tu σ ≤ tu ρ) ∧ INV b0 (t + 1) ρ (eb + eT t) (ob + oT t) := by
  unfold J_L_law_233
  simp only [g1, g2, g3, g4, g5]
  generalize xs (x4 + 1).toNatClampNeg = a
  generalize xs (x4 + 2).toNatClampNeg = b
  generalize xs (x4 + 3).toNatClampNeg = c
  generalize xs (x4 + 4).toNatClampNeg = d
  generalize xs (x4 + 5).toNatClampNeg = e
  refine step_N (mC := m_X10_feed b0 fu (b0 + 0) a b c d e σ) (mR := fun τ => m_X12_feed b0 fu (b0 + 35) a b c d e τ) (kk := fun ρ => J_L_law_2051 b0 fu L xs rc (b0 + 0) (b0 + 35) (b0 + 73) x4 ρ) (X := fun A _ => feA (v5 a b c d e) A) hI (fun C D A J N bi sp w c st bv => ?_) (fun C D A J N bi sp w c st bv τ q => ?_) (fun C D A J N bi sp w st bv => ?_)
  · exact feed_st (PH_good t) PH_ok PH_ti c st bv.1.2.1 (by omega)
  · exact feed_wp q bv.1.2.1 (by omega)
  · obtain ⟨o1, o2, o3, o4⟩ := feA_o (A := A) (v := v5 a b c d e)
    exact bv_cg bv (pat_fe bv.1.1) (o4 bv.1.2.1) (fun b hb => by rw [o1 68 (by decide) (by decide)]; exact bv.1.2.2 b hb) (fun o ho => o1 o (by omega) (by omega)) (fun q hq => o2 q (by omega) (by omega)) (fun h => by rw [o2 18 (by decide) (by decide)] at h; exact h)
theorem law_306 (g1 : ∀ k : Option (Int32 × tM), ckI (x4 + 1) L k = k) (g2 : ∀ k : Option (Int32 × tM), ckI (x4 + 2) L k = k) (hu : 1200000 ≤ fu) (hI : INV b0 t σ eb ob) : ∃ ρ, J_L_law_306 b0 fu L xs rc (b0 + 0) (b0 + 35) (b0 + 73) x4 σ = J_L_law_2051 b0 fu L xs rc (b0 + 0) (b0 + 35) (b0 + 73) x4 ρ ∧ (tn σ ≤ tn ρ ∧ tu σ ≤ tu ρ) ∧ INV b0 (t + 1) ρ (eb + eT t) (ob + oT t) := by
  unfold J_L_law_306
  simp only [g1, g2]
  generalize xs (x4 + 1).toNatClampNeg = x
  generalize xs (x4 + 2).toNatClampNeg = y
  refine step_N (mC := m_X10_path b0 fu (b0 + 0) x y σ) (mR := fun τ => m_X12_path b0 fu (b0 + 35) x y τ) (kk := fun ρ => J_L_law_2051 b0 fu L xs rc (b0 + 0) (b0 + 35) (b0 + 73) x4 ρ) (X := fun A _ => ptA x y A) hI (fun C D A J N bi sp w c st bv => ?_) (fun C D A J N bi sp w c st bv τ q => ?_) (fun C D A J N bi sp w st bv => ?_)
  · exact path_st (PH_good t) PH_ok PH_ti c st bv.1.2.1 (by omega)
  · exact path_wp q bv.1.2.1 (by omega)
  · obtain ⟨o1, o2, o3, o4⟩ := ptA_o (A := A) (x := x) (y := y)
    exact bv_cg bv (pat_pt bv.1.1) (by rw [o4]; exact Nat.zero_le _) (fun b hb => by rw [o1 68 (by decide) (by omega)]; exact bv.1.2.2 b hb) (fun o ho => o1 o (by omega) (by omega)) (fun q hq => o2 q (by omega) (by omega)) (fun h => by rw [o2 18 (by decide) (by decide)] at h; exact h)
theorem law_1794 (g1 : ∀ k : Option (Int32 × tM), ckI (x4 + 1) L k = k) (hu : 1200000 ≤ fu) (hI : INV b0 t σ eb ob) : ∃ ρ, J_L_law_1794 b0 fu L xs rc (b0 + 0) (b0 + 35) (b0 + 73) x4 σ = J_L_law_2051 b0 fu L xs rc (b0 + 0) (b0 + 35) (b0 + 73) x4 ρ ∧ (tn σ ≤ tn ρ ∧ tu σ ≤ tu ρ) ∧ INV b0 (t + 1) ρ (eb + eT t) (ob + oT t) := by
  unfold J_L_law_1794
  simp only [g1]
  generalize xs (x4 + 1).toNatClampNeg = x
  refine step_N (mC := m_X10_cut b0 fu (b0 + 0) x σ) (mR := fun τ => m_X12_cut b0 fu (b0 + 35) x τ) (kk := fun ρ => J_L_law_2051 b0 fu L xs rc (b0 + 0) (b0 + 35) (b0 + 73) x4 ρ) (X := fun A _ => cuA x A) hI (fun C D A J N bi sp w c st bv => ?_) (fun C D A J N bi sp w c st bv τ q => ?_) (fun C D A J N bi sp w st bv => ?_)
  · exact cutM_c (PH_good t) PH_ok c st
  · exact cut_wp q
  · have b0' := bv_sC bv (sC_0 (v := 0)) (up2_rown (by decide))
    show BV t (cuA x A).2 J N
    unfold cuA
    split
    · exact b0'
    · show BV t (up2 (up2 A 35 0 0) 35 19 (x.toInt + 1).toNat) J N
      generalize up2 A 35 0 0 = A at *
      generalize (x.toInt + 1).toNat = z
      exact bv_cg b0' (fun v hv => by rw [up2_rown (by decide), up2_rown (by omega)]; exact b0'.1.1 v hv) (by rw [up2_j (by decide)]; exact b0'.1.2.1) (fun b hb => by rw [up2_rown (by decide)]; exact b0'.1.2.2 b hb) (fun o ho => up2_rown (by omega)) (fun q hq => up2_j (by omega)) (fun h => by rw [up2_j (by decide)] at h; exact h)
theorem law_1863 (g1 : ∀ k : Option (Int32 × tM), ckI (x4 + 1) L k = k) (g2 : ∀ k : Option (Int32 × tM), ckI (x4 + 2) L k = k) (hu : 1200000 ≤ fu) (hI : INV b0 t σ eb ob) : ∃ ρ, J_L_law_1863 b0 fu L xs rc (b0 + 0) (b0 + 35) (b0 + 73) x4 σ = J_L_law_2051 b0 fu L xs rc (b0 + 0) (b0 + 35) (b0 + 73) x4 ρ ∧ (tn σ ≤ tn ρ ∧ tu σ ≤ tu ρ) ∧ INV b0 (t + 1) ρ (eb + eT t) (ob + oT t) := by
  unfold J_L_law_1863
  simp only [g1, g2]
  generalize xs (x4 + 1).toNatClampNeg = x
  generalize xs (x4 + 2).toNatClampNeg = y
  refine step_N (mC := m_X10_choose b0 fu (b0 + 0) x y σ) (mR := fun τ => m_X12_choose b0 fu (b0 + 35) x y τ) (kk := fun ρ => J_L_law_2051 b0 fu L xs rc (b0 + 0) (b0 + 35) (b0 + 73) x4 ρ) (X := fun A _ => chA x y A) hI (fun C D A J N bi sp w c st bv => ?_) (fun C D A J N bi sp w c st bv τ q => ?_) (fun C D A J N bi sp w st bv => ?_)
  · exact choose_c (PH_good t) PH_ok c st bv.2.1.1
  · have d := bv.2.1.1
    exact choose_wp q (Nat.lt_of_lt_of_le d.2.2.1 (by decide)) d.2.2.2.1 d.1 d.2.1 (by omega)
  · have b0' := bv_sC bv (sC_0 (v := 0)) (up2_rown (by decide))
    have b1 := bv_sC b0' (sC_0 (v := 0)) (up2_rown (by decide))
    show BV t (chA x y A).2 J N
    unfold chA
    split
    · exact b0'
    · split
      · exact b1
      · show BV t (up2 (up2 (up2 A 35 0 0) 35 0 0) 46 x.toNatClampNeg y.toNatClampNeg) J N
        generalize up2 (up2 A 35 0 0) 35 0 0 = A at *
        exact bv_cg b1 (fun v hv => by rw [up2_rown (by decide), up2_rown (by omega)]; exact b1.1.1 v hv) (by rw [up2_rown (by decide)]; exact b1.1.2.1) (fun b hb => by rw [up2_rown (by decide)]; exact b1.1.2.2 b hb) (fun o ho => up2_rown (by omega)) (fun q hq => by rw [up2_rown (by decide)]) (fun h => by rw [up2_rown (by decide)] at h; exact h)
/-- what shuffle leaves -/
theorem sh_68 {seed : Int64} (d : dsk A K) (h : ∀ b, 6200 ≤ b → A 68 b = 0) : (∀ o, o ≠ 46 → o ≠ 68 → (shY seed A).2 o = A o) ∧ ∀ b, 6200 ≤ b → (shY seed A).2 68 b = 0 := by
  unfold shY
  obtain ⟨s1, -⟩ := shL_f (seed := seed) (34 + A 35 6 + A 35 7) 0 0 (sh1 A)
  refine ⟨fun o h1 h2 => ?_, fun b hb => ?_⟩
  · rw [s1 o h1]
    unfold sh1
    rw [seN_o h2, fl_row h2]
  · rw [s1 68 (by decide)]
    unfold sh1
    rw [seN_68, fl_at, if_neg (fun q => by omega), h b hb, fl_row (by decide), fl_row (by decide), Nat.zero_add]
    refine cn_all0 _ _ (fun i _ hi => ?_)
    have := d.2.2.2.2.2.2 i (by omega)
    have h6 := d.1
    have h7 := d.2.1
    have := this.1
    refine beq_eq_false_iff_ne.mpr (fun q => ?_)
    omega
theorem law_1900 (g1 : ∀ k : Option (Int32 × tM), ckI (x4 + 1) L k = k) (g2 : ∀ k : Option (Int32 × tM), ckI (x4 + 2) L k = k) (hu : 1200000 ≤ fu) (hI : INV b0 t σ eb ob) : ∃ ρ, J_L_law_1900 b0 fu L xs rc (b0 + 0) (b0 + 35) (b0 + 73) x4 σ = J_L_law_2051 b0 fu L xs rc (b0 + 0) (b0 + 35) (b0 + 73) x4 ρ ∧ (tn σ ≤ tn ρ ∧ tu σ ≤ tu ρ) ∧ INV b0 (t + 1) ρ (eb + eT t) (ob + oT t) := by
  unfold J_L_law_1900
  simp only [g1, g2]
  generalize (((xs (x4 + 1).toNatClampNeg).toInt64) <<< (((32 : Int32)).toInt64 &&& 63)) ||| (((xs (x4 + 2).toNatClampNeg).toInt64) &&& (4294967295)) = x
  refine step_N (mC := m_X10_shuffle b0 fu (b0 + 0) x σ) (mR := fun τ => m_X12_shuffle b0 fu (b0 + 35) x τ) (kk := fun ρ => J_L_law_2051 b0 fu L xs rc (b0 + 0) (b0 + 35) (b0 + 73) x4 ρ) (X := fun A _ => shA x A) hI (fun C D A J N bi sp w c st bv => ?_) (fun C D A J N bi sp w c st bv τ q => ?_) (fun C D A J N bi sp w st bv => ?_)
  · exact shuffle_c (PH_good t) PH_ok (by omega) c st bv.2.1.1
  · exact shuffle_wp q (fun _ => ⟨dsk_le bv.2.1.1 (Nat.zero_le _), bv.1.2.2⟩) (by omega)
  · have b0' := bv_sC bv (sC_0 (v := 0)) (up2_rown (by decide))
    show BV t (shA x A).2 J N
    unfold shA
    split
    · exact b0'
    · show BV t (shY x (up2 A 35 0 0)).2 J N
      generalize up2 A 35 0 0 = A at *
      obtain ⟨s1, s2⟩ := sh_68 (seed := x) b0'.2.1.1 b0'.1.2.2
      have s35 := s1 35 (by decide) (by decide)
      exact bv_cg b0' (fun v hv => by rw [s1 64 (by decide) (by decide), s1 (62 + v) (by omega) (by omega)]; exact b0'.1.1 v hv) (by rw [s35]; exact b0'.1.2.1) s2 (fun o ho => s1 o (by omega) (by omega)) (fun q hq => by rw [s35]) (fun h => by rw [s35] at h; exact h)
theorem law_2001 (g1 : ∀ k : Option (Int32 × tM), ckI (x4 + 1) L k = k) (hu : 1200000 ≤ fu) (hI : INV b0 t σ eb ob) : ∃ ρ, J_L_law_2001 b0 fu L xs rc (b0 + 0) (b0 + 35) (b0 + 73) x4 σ = J_L_law_2051 b0 fu L xs rc (b0 + 0) (b0 + 35) (b0 + 73) x4 ρ ∧ (tn σ ≤ tn ρ ∧ tu σ ≤ tu ρ) ∧ INV b0 (t + 1) ρ (eb + eT t) (ob + oT t) := by
  unfold J_L_law_2001
  simp only [g1]
  generalize xs (x4 + 1).toNatClampNeg = x
  refine step_N (mC := m_X10_versions b0 fu (b0 + 0) x σ) (mR := fun τ => m_X12_versions b0 fu (b0 + 35) x τ) (kk := fun ρ => J_L_law_2051 b0 fu L xs rc (b0 + 0) (b0 + 35) (b0 + 73) x4 ρ) (X := fun A _ => vsA x A) hI (fun C D A J N bi sp w c st bv => ?_) (fun C D A J N bi sp w c st bv τ q => ?_) (fun C D A J N bi sp w st bv => ?_)
  · exact versions_c (PH_good t) PH_ok c st bv.2.1.1
  · have d := bv.2.1.1
    exact versions_wp q (Nat.lt_of_lt_of_le d.2.2.1 (by decide)) d.2.2.2.1 d.1 d.2.1 (by omega)
  · have b0' := bv_sC bv (sC_0 (v := 0)) (up2_rown (by decide))
    show BV t (vsA x A).2 J N
    unfold vsA
    split
    · exact b0'
    · exact b0'
theorem law_2026 (g1 : ∀ k : Option (Int32 × tM), ckI (x4 + 1) L k = k) (hu : 1200000 ≤ fu) (hI : INV b0 t σ eb ob) : ∃ ρ, J_L_law_2026 b0 fu L xs rc (b0 + 0) (b0 + 35) (b0 + 73) x4 σ = J_L_law_2051 b0 fu L xs rc (b0 + 0) (b0 + 35) (b0 + 73) x4 ρ ∧ (tn σ ≤ tn ρ ∧ tu σ ≤ tu ρ) ∧ INV b0 (t + 1) ρ (eb + eT t) (ob + oT t) := by
  unfold J_L_law_2026
  simp only [g1]
  generalize xs (x4 + 1).toNatClampNeg = x
  refine step_N (mC := m_X10_total b0 fu (b0 + 0) x σ) (mR := fun τ => m_X12_total b0 fu (b0 + 35) x τ) (kk := fun ρ => J_L_law_2051 b0 fu L xs rc (b0 + 0) (b0 + 35) (b0 + 73) x4 ρ) (X := fun A J => toA x A J) hI (fun C D A J N bi sp w c st bv => ?_) (fun C D A J N bi sp w c st bv τ q => ?_) (fun C D A J N bi sp w st bv => ?_)
  · exact total_c (PH_good t) PH_ok (by omega) c st
  · have d := bv.2.1.1
    refine total_wp q d.1 d.2.1 (fun on => ?_) (by omega)
    rcases st with r | r
    · have jo := r.1.2.1.2.2.1
      have jg := r.1.2.1.2.2.2.1
      unfold JO at jo
      have nr := r.2.2.2.2.2.2.2.1
      refine ⟨by omega, by omega, by omega, ?_, by omega⟩
      rw [jo.1, Nat.sub_self]
      exact jg.2.2.1
    · exact absurd r.2.1 on
  · have b0' := bv_sC bv (sC_0 (v := 0)) (up2_rown (by decide))
    show BV t (toA x A J).2 J N
    unfold toA
    split
    · exact b0'
    · split
      · exact b0'
      · exact b0'
/-- crash -/
theorem bv_cr (h : BV t A J N) : BV t (crA A).2 J N := by
  have b0' := bv_sC h (sC_0 (v := 0)) (up2_rown (by decide))
  by_cases c : A 35 18 = 0
  · have e : (crA A).2 = up2 (up2 A 35 0 0) 35 0 1 := by
      unfold crA
      rw [if_pos c]
    rw [e]
    exact bv_off h
  · have e : (crA A).2 = powA (up2 A 35 0 0) := by
      unfold crA
      rw [if_neg c]
    rw [e]
    clear e c
    generalize up2 A 35 0 0 = A at *
    have r : ∀ o, o ≠ 35 → o ≠ 46 → powA A o = A o := fun o h1 h2 => by
      unfold powA
      rw [fl_row h2, up2_rown h1, up2_rown h1]
    have f : ∀ q, q ≠ 18 → q ≠ 19 → powA A 35 q = A 35 q := fun q h1 h2 => by
      unfold powA
      rw [fl_row (by decide), up2_j h2, up2_j h1]
    have f18 : powA A 35 18 = 0 := by
      unfold powA
      rw [fl_row (by decide), up2_j (by decide), up2_s]
    exact bv_cg b0' (fun v hv => by rw [r 64 (by decide) (by decide), r (62 + v) (by omega) (by omega)]; exact b0'.1.1 v hv) (by rw [f 57 (by decide) (by decide)]; exact b0'.1.2.1) (fun b hb => by rw [r 68 (by decide) (by decide)]; exact b0'.1.2.2 b hb) (fun o ho => r o (by omega) (by omega)) (fun q hq => f q (by omega) (by omega)) (fun h => by rw [f18] at h; cases h)
theorem law_1819 (hu : 1200000 ≤ fu) (hI : INV b0 t σ eb ob) : ∃ ρ, J_L_law_1819 b0 fu L xs rc (b0 + 0) (b0 + 35) (b0 + 73) x4 σ = J_L_law_1860 b0 fu L xs rc (b0 + 0) (b0 + 35) (b0 + 73) x4 ρ ∧ (tn σ ≤ tn ρ ∧ tu σ ≤ tu ρ) ∧ INV b0 (t + 1) ρ (eb + eT t) (ob + oT t) := by
  unfold J_L_law_1819 m_L_crash
  obtain ⟨C, D, A, J, N, bi, sp, w, i1, i2, i3, i4, i5, i6, i7⟩ := hI
  obtain ⟨ρ, e1, e2, e3, un, s, bi', sp', w', C', D', r1, r2, r3, r4, r5⟩ := op_w (fu := fu) (mC := m_X10_crash b0 fu (b0 + 0) σ) (mR := fun τ => m_X12_crash b0 fu (b0 + 35) τ) (kk := fun ρ => J_L_law_1860 b0 fu L xs rc (b0 + 0) (b0 + 35) (b0 + 73) x4 ρ) (X := fun _ _ => ((crA A).1, ((crA A).2, J))) (Φ := PH (t + 1)) (e := eT t) (o := oT t) (N' := N) i1 i2 i3 (fun un hun => wp_mono (crash_c (PH_good t) PH_ok (by omega) i2 i4 i5.2.1.1) (fun v τ _ q s => by
      obtain ⟨q1, C', D', q2, q3, q4⟩ := q
      exact ⟨bi, sp, fun _ => (0, 0), C', D', q2, ST_suc (Or.inr q3), EL_le q4 (eT_6 t).1 (eT_6 t).2, q1⟩)) (fun τ q => wp_mono (crash_wp q (by omega)) (fun v τ' _ z => ⟨0, 0, Nat.zero_le _, z.1, z.2⟩))
  exact ⟨ρ, e1, e2, C', D', (crA A).2, J, N, bi', sp', w', e3, r3, r2, r4, bv_suc (bv_cr i5), ar_k r5.1 i6, ar_k2 r5.2 i7⟩
end LAP
