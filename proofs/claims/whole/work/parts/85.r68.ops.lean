/-! ===== PURE: calls of the law: open, sum ===== -/
section LAO
variable {Φ : tPh} {b0 fu : Nat} {σ τ : tM} {bi sp : Nat → Nat} {w : Nat → Nat × Nat} {C : tS} {D D' : tD} {A B E : tS} {J J' : tJ} {K t un n N N' s e o eb ob v : Nat} {L : Nat} {xs : Nat → Int32} {rc : Nat → Nat → Nat → Int32 → tM → Option (Int32 × tM)} {x4 : Int32}
theorem bv_71 {k x : Nat} (h : BV t A J N) (hi : HI (up2 A 71 k x)) : BV t (up2 A 71 k x) J N := by
  obtain ⟨⟨b1, b2, b3⟩, ⟨b4, b5, b6, b7, i5, i6⟩, b8, b10⟩ := h
  have r : ∀ o, o ≠ 71 → up2 A 71 k x o = A o := fun o ho => up2_rown ho
  have r35 : ∀ q, up2 A 71 k x 35 q = A 35 q := fun q => by rw [r 35 (by decide)]
  have tc : tcA (up2 A 71 k x) = tcA A := by
    unfold tcA
    rw [r 51 (by decide)]
  have rc : rcA (up2 A 71 k x) = rcA A := by
    unfold rcA
    rw [r 52 (by decide)]
  have gs : gsA (up2 A 71 k x) = gsA A := by
    unfold gsA
    rw [tc, rc]
  refine ⟨⟨fun v hv => ?_, by rw [r35]; exact b2, by rw [r 68 (by decide)]; exact b3⟩, ⟨dsk_cg b4 (fun q _ => r35 q) (r 42 (by decide)) (r 43 (by decide)), by rw [r35]; exact b5, by rw [r35]; exact b6, b7, by rw [tc]; exact i5, by rw [rc]; exact i6⟩, b8, fun q => ?_⟩
  · rw [r 64 (by decide), r (62 + v) (by omega)]
    exact b1 v hv
  · rw [r35] at q
    obtain ⟨c1, c2, c3, c4⟩ := b10 q
    refine ⟨hi, ?_, by rw [gs, r35]; exact c3, by rw [tc, rc]; exact c4⟩
    unfold CHG TK at c2 ⊢
    rw [r 50 (by decide), r 51 (by decide)]
    exact c2
theorem law_651 (ht : t ≤ 63) (hu : 1200000 ≤ fu) (hI : INV b0 t σ eb ob) : ∃ ρ, J_L_law_651 b0 fu L xs rc (b0 + 0) (b0 + 35) (b0 + 73) x4 σ = J_L_law_692 b0 fu L xs rc (b0 + 0) (b0 + 35) (b0 + 73) x4 ρ ∧ (tn σ ≤ tn ρ ∧ tu σ ≤ tu ρ) ∧ INV b0 (t + 1) ρ (eb + eT t) (ob + oT t) := by
  unfold J_L_law_651 m_L_open
  refine step_U (fu := fu) (mC := m_X10_open b0 fu (b0 + 0) σ) (mR := fun τ => m_X12_open b0 fu (b0 + 35) τ) (kk := fun ρ => J_L_law_692 b0 fu L xs rc (b0 + 0) (b0 + 35) (b0 + 73) x4 ρ) (f := opY) hI (fun C D A J N bi sp w c st bv => ?_) (fun C D A J N bi sp w c st bv τ q => ?_) (fun C D A J N bi sp w s ro bv => ?_)
  · exact open_c (by omega) c st bv.1.1
  · exact open_wp q (fun on => bd_up ht st bv on) (by omega)
  · show BV t (opY A s).2 J N
    have b51 := bv_sC bv (sC_51 (s := s)) (up2_rown (by decide))
    have S := ro.2.1
    have P := ro.2.2.1
    by_cases c : wtA A 0 true < 0
    · have e : opY A s = (wtA A 0 true, up2 A 35 51 s) := by
        unfold opY
        rw [if_pos c]
      rw [e]
      exact b51
    obtain ⟨y, hy⟩ : ∃ y : Nat, wtA A 0 true = (y : Int) := ⟨(wtA A 0 true).toNat, by omega⟩
    obtain ⟨y1, y2, y3⟩ := wt_us P hy
    have y3 := y3 rfl
    have kb := (nd_k S.ok y1).1
    by_cases c2 : nd A y 0 = 2
    · have e : opY A s = (-4, up2 A 35 51 s) := by
        unfold opY
        rw [if_neg c, hy, Int.toNat_natCast, if_pos c2]
      rw [e]
      exact b51
    by_cases c3 : ohA A = 16
    · have e : opY A s = (-10, up2 A 35 51 s) := by
        unfold opY
        rw [if_neg c, hy, Int.toNat_natCast, if_neg c2, if_pos c3]
      rw [e]
      exact b51
    have e : opY A s = ((ohA A : Int), up2 (up2 A 35 51 s) 71 (ohA A) (y + 1)) := by
      unfold opY
      rw [if_neg c, hy, Int.toNat_natCast, if_neg c2, if_neg c3]
    rw [e]
    have le : ohA A ≤ 16 := (sr_le (fun h => A 71 h == 0) 16 0).2
    have hz : A 71 (ohA A) = 0 := by
      have := sr_is (fun h => A 71 h == 0) 16 0 (show ohA A < 0 + 16 by omega)
      exact beq_iff_eq.mp this
    have on : up2 A 35 51 s 35 18 = 1 := by
      rw [up2_j (by decide)]
      exact ro.2.2.2.2.2.2.1
    refine bv_71 b51 (HI_op (b51.2.2.2 on).1 y1 ?_ (by rw [up2_o (by decide)]; exact hz))
    unfold nd at kb y2 y3 c2 ⊢
    rw [up2_o (by decide)]
    omega
/-- a call whose value is a long -/
theorem op_wL {mC : Option ((Int64 ⊕ Unit) × tM)} {mR : tM → Option (Int64 × tM)} {kk : tM → Option (Int32 × tM)} {X : Int64 × tS} (hT : tk σ (b0 + 73) = .inr (3, 1)) (h : CM b0 σ C D) (hm : RM b0 J σ A N)
    (hC : wp (FC b0) σ mC (fun v τ => SMZ Φ b0 D J v τ X))
    (hR : ∀ τ, RM b0 J τ A N → wp (FR b0) τ (mR τ) (fun v τ' => v = X.1 ∧ RM b0 J τ' X.2 N)) :
    ∃ ρ, cll (grw σ (ckO b0 σ (b0 + 0) 10 (cly mC (fun v3 ρ4 => ckR b0 ρ4 (b0 + 73) 3 (fun n8 => ckI 0 n8 (some ((0 : Int32), sL ρ4 (b0 + 73) ((0 : Int32).toNatClampNeg) v3)))) (fun ρ11 => some (1, ρ11))))) (fun v71 ρ72 => ckO b0 ρ72 (b0 + 35) 11 (cll (mR ρ72) (fun v76 ρ77 => ckO b0 ρ77 (b0 + 35) 11 (cll (m_X12_thrown b0 fu (b0 + 35) ρ77) (fun v81 ρ82 => if v81 = v71 then if v71 = 0 then ckR b0 ρ82 (b0 + 73) 3 (fun n88 => ckI 0 n88 (if lg_cmp (tL ρ82 (b0 + 73) ((0 : Int32).toNatClampNeg)) v76 = 0 then kk ρ82 else some (0, ρ82))) else kk ρ82 else some (0, ρ82)))))) = kk ρ ∧ (tn σ ≤ tn ρ ∧ tu σ ≤ tu ρ) ∧ tk ρ (b0 + 73) = .inr (3, 1) ∧ ∃ bi sp w C' D', RM b0 J ρ X.2 N ∧ CM b0 ρ C' D' ∧ ST Φ bi sp w C' D' X.2 J ∧ EL D D' 6 1 := by
  have L := h.lay
  have h74 := L.1
  obtain ⟨v, τ, eC, fC, all⟩ := hC
  have kτ : tk τ (b0 + 73) = .inr (3, 1) := by rw [(fC.2.2 _ (Or.inr rfl)).1]; exact hT
  have nτ := fC.1
  have hmτ := RM_FC hm fC
  have ref : ∀ T, RM b0 J T A N → b0 + 73 < b0 + tn T → tk T (b0 + 73) = .inr (3, 1) → (∃ C0 D0, CM b0 T C0 D0) → ∃ v76 ρ77, mR T = some (v76, ρ77) ∧ v76 = X.1 ∧ RM b0 J ρ77 X.2 N ∧ (tn T ≤ tn ρ77 ∧ tu T ≤ tu ρ77) ∧ same T ρ77 (b0 + 73) ∧ (∀ C0 D0, CM b0 T C0 D0 → CM b0 ρ77 C0 D0) := by
    intro T hT hn k c
    obtain ⟨v76, ρ77, eR, fR, ev, hm'⟩ := hR T hT
    obtain ⟨C0, D0, c0⟩ := c
    refine ⟨v76, ρ77, eR, ev, hm', ⟨fR.1, fR.2.1⟩, fR.2.2.2.2.1 _ hn (fun q => (c0.rf _ q).2.1 rfl), fun C1 D1 c1 => CM_FR c1 hT fR hm'⟩
  have thr : ∀ ρ A' J', RM b0 J' ρ A' N → m_X12_thrown b0 fu (b0 + 35) ρ = some (nI (A' 35 0), ρ) := fun ρ A' J' q => by
    unfold m_X12_thrown
    rw [ckR_35 q.ra.lay, rf_0 q.ra]
    exact grw_same
  cases v with
  | inl v3 =>
    rcases all with ⟨y1, y2, bi, sp, w, C', D', c, st, el⟩ | ⟨y1, -⟩
    · have d0 : v3 = X.1 := by injection y1
      have clsE : grw σ (ckO b0 σ (b0 + 0) 10 (cly (some ((Sum.inl v3 : Int64 ⊕ Unit), τ)) (fun v3 ρ4 => ckR b0 ρ4 (b0 + 73) 3 (fun n8 => ckI 0 n8 (some ((0 : Int32), sL ρ4 (b0 + 73) ((0 : Int32).toNatClampNeg) v3)))) (fun ρ11 => some (1, ρ11)))) = some (0, sL τ (b0 + 73) ((0 : Int32).toNatClampNeg) v3) := by
        refine grw_p ?_ fC.1 fC.2.1
        rw [ckC_0 L]
        unfold cly
        dsimp only
        rw [ckR_p (n := 1) kτ ⟨by omega, by omega⟩]
        rfl
      rw [eC, clsE, cll_some]
      obtain ⟨v76, ρ77, eR, ev, hm', hn', sm, cm⟩ := ref (sL τ (b0 + 73) ((0 : Int32).toNatClampNeg) v3) (RM_73 hmτ) (by show b0 + 73 < b0 + tn τ; omega) kτ ⟨C', D', CM_73 c⟩
      refine ⟨ρ77, ?_, ⟨Nat.le_trans fC.1 hn'.1, Nat.le_trans fC.2.1 hn'.2⟩, by rw [sm.1]; exact kτ, bi, sp, w, C', D', hm', cm _ _ (CM_73 c), Or.inl st, EL_le el (Nat.zero_le _) (Nat.zero_le _)⟩
      rw [ckR_35 (RM_73 hmτ).ra.lay, eR, cll_some, ckR_35 hm'.ra.lay, thr _ _ _ hm', cll_some, y2, if_pos (show nI 0 = (0 : Int32) from rfl), if_pos rfl, ckR_p (n := 1) (by rw [sm.1]; exact kτ) ⟨by omega, by have := hn'.1; have : tn τ ≤ tn ρ77 := this; omega⟩]
      have lL : tL ρ77 (b0 + 73) ((0 : Int32).toNatClampNeg) = v3 := by
        rw [sm.2.2.1]
        exact rd_LLs _ _ _ _
      show (if lg_cmp (tL ρ77 (b0 + 73) ((0 : Int32).toNatClampNeg)) v76 = 0 then kk ρ77 else some (0, ρ77)) = kk ρ77
      rw [lL, ev, ← d0, if_pos (cmp_self _)]
    · cases y1
  | inr u =>
    rcases all with ⟨y1, -⟩ | ⟨y1, y2, bi, sp, C', D', c, st, el⟩
    · cases y1
    · have clsE : grw σ (ckO b0 σ (b0 + 0) 10 (cly (some ((Sum.inr u : Int64 ⊕ Unit), τ)) (fun v3 ρ4 => ckR b0 ρ4 (b0 + 73) 3 (fun n8 => ckI 0 n8 (some ((0 : Int32), sL ρ4 (b0 + 73) ((0 : Int32).toNatClampNeg) v3)))) (fun ρ11 => some (1, ρ11)))) = some (1, τ) := by
        refine grw_p ?_ fC.1 fC.2.1
        rw [ckC_0 L]
        rfl
      rw [eC, clsE, cll_some]
      obtain ⟨v76, ρ77, eR, ev, hm', hn', sm, cm⟩ := ref τ hmτ (by omega) kτ ⟨C', D', c⟩
      refine ⟨ρ77, ?_, ⟨Nat.le_trans fC.1 hn'.1, Nat.le_trans fC.2.1 hn'.2⟩, by rw [sm.1]; exact kτ, bi, sp, fun _ => (0, 0), C', D', hm', cm _ _ c, Or.inr st, el⟩
      rw [ckR_35 hmτ.ra.lay, eR, cll_some, ckR_35 hm'.ra.lay, thr _ _ _ hm', cll_some, y2, if_pos (show nI 1 = (1 : Int32) from rfl), if_neg (show ¬ (1 : Int32) = 0 by decide)]
theorem bv_off (h : BV t A J N) : BV t (up2 (up2 A 35 0 0) 35 0 1) J N := by
  have q0 := bv_sC h (sC_0 (v := 0)) (up2_rown (by decide))
  have r68 : up2 (up2 A 35 0 0) 35 0 1 68 = up2 A 35 0 0 68 := up2_rown (by decide)
  exact bv_sC q0 sC_0 r68
theorem law_1059 (g1 : ∀ k : Option (Int32 × tM), ckI (x4 + 1) L k = k) (g2 : ∀ k : Option (Int32 × tM), ckI (x4 + 2) L k = k) (g3 : ∀ k : Option (Int32 × tM), ckI (x4 + 3) L k = k) (ht : t ≤ 63) (hu : 1200000 ≤ fu) (hI : INV b0 t σ eb ob) : ∃ ρ, J_L_law_1059 b0 fu L xs rc (b0 + 0) (b0 + 35) (b0 + 73) x4 σ = J_L_law_1135 b0 fu L xs rc (b0 + 0) (b0 + 35) (b0 + 73) x4 ρ ∧ (tn σ ≤ tn ρ ∧ tu σ ≤ tu ρ) ∧ INV b0 (t + 1) ρ (eb + eT t) (ob + oT t) := by
  unfold J_L_law_1059 m_L_sum
  simp only [g1, g2, g3]
  generalize xs (x4 + 1).toNatClampNeg = x
  generalize xs (x4 + 2).toNatClampNeg = y
  generalize xs (x4 + 3).toNatClampNeg = z
  obtain ⟨C, D, A, J, N, bi, sp, w, i1, i2, i3, i4, i5, i6, i7⟩ := hI
  obtain ⟨ρ, e1, e2, e3, bi', sp', w', C', D', r2, r3, r4, r5⟩ := op_wL (fu := fu) (mC := m_X10_sum b0 fu (b0 + 0) x y z σ) (mR := fun τ => m_X12_sum b0 fu (b0 + 35) x y z τ) (kk := fun ρ => J_L_law_1135 b0 fu L xs rc (b0 + 0) (b0 + 35) (b0 + 73) x4 ρ) (X := smX x y z A) (Φ := PH t) i1 i2 i3 (sum_c (by omega) i2 i4 (fun on => (i5.2.2.2 on).1.1)) (fun τ q => sum_wp q (fun on => ho_up i4 i5 on) (by omega))
  refine ⟨ρ, e1, e2, C', D', (smX x y z A).2, J, N, bi', sp', w', e3, r3, r2, ?_, ?_, ar_k (EL_le r5 (eT_6 t).1 (eT_6 t).2).1 i6, ar_k2 (EL_le r5 (eT_6 t).1 (eT_6 t).2).2 i7⟩
  · rcases r4 with q | q
    · exact Or.inl (RO_ph (fun w A h => PH_mono h (Nat.le_succ _)) q)
    · exact Or.inr (OF_ph (fun w A h => PH_mono h (Nat.le_succ _)) q)
  · refine bv_suc ?_
    have q0 := bv_sC i5 (sC_0 (v := 0)) (up2_rown (by decide))
    unfold smX
    split
    · exact bv_off i5
    · unfold smY
      cases hdA (up2 A 35 0 0) x with
      | none => exact q0
      | some n =>
        dsimp only
        split
        · exact q0
        · exact q0
end LAO
