/-! ===== PURE: calls of the law that only read ===== -/
section LAR
variable {Φ : tPh} {b0 fu : Nat} {σ τ : tM} {bi sp : Nat → Nat} {w : Nat → Nat × Nat} {C : tS} {D D' : tD} {A B E : tS} {J J' : tJ} {K t un n N N' s e o eb ob v : Nat} {L : Nat} {xs : Nat → Int32} {rc : Nat → Nat → Nat → Int32 → tM → Option (Int32 × tM)} {x4 : Int32}
theorem pat_sC (h : patOk A) (s : sC A B) : patOk B := by
  intro v hv
  have h64 := s.1 64 (by omega)
  have h62 := s.1 (62 + v) (by omega)
  rw [h64, h62]
  exact h v hv
theorem bv_sC (h : BV t A J N) (s : sC A B) (h68 : B 68 = A 68) : BV t B J N := by
  obtain ⟨⟨b1, b2, b3⟩, ⟨b4, b5, b6, b7, i5, i6⟩, b8, b10⟩ := h
  have tc : tcA B = tcA A := by
    unfold tcA
    rw [s.1 51 (by omega)]
  have rc : rcA B = rcA A := by
    unfold rcA
    rw [s.1 52 (by omega)]
  have gs : gsA B = gsA A := by
    unfold gsA
    rw [tc, rc]
  refine ⟨⟨pat_sC b1 s, by rw [s.2 57 (by decide) (by decide) (by decide)]; exact b2, by rw [h68]; exact b3⟩, ⟨dsk_scr b4 s, by rw [s.2 28 (by decide) (by decide) (by decide)]; exact b5, by rw [s.2 34 (by decide) (by decide) (by decide)]; exact b6, b7, by rw [tc]; exact i5, by rw [rc]; exact i6⟩, b8, fun q => ?_⟩
  rw [s.2 18 (by decide) (by decide) (by decide)] at q
  obtain ⟨c1, c2, c3, c4⟩ := b10 q
  refine ⟨HI_kw c1 ⟨fun m _ => ?_, s.1 71 (by omega)⟩, ?_, by rw [gs, s.2 6 (by decide) (by decide) (by decide)]; exact c3, by rw [tc, rc]; exact c4⟩
  · unfold nd
    rw [s.1 36 (by omega)]
    exact ⟨rfl, rfl⟩
  · unfold CHG TK at c2 ⊢
    rw [s.1 50 (by omega), s.1 51 (by omega)]
    exact c2
theorem ar_s1 {x t : Nat} (h : x ≤ 400 * t) : x ≤ 400 * (t + 1) := by omega
theorem ar_s2 {x t : Nat} (h : x ≤ 800 * t) : x ≤ 800 * (t + 1) := by omega
theorem ar_s3 {x t : Nat} (h : x ≤ 5000 + 600 * t) : x ≤ 5000 + 600 * (t + 1) := by omega
theorem bv_suc (h : BV t A J N) : BV (t + 1) A J N := by
  obtain ⟨b1, ⟨b4, b5, b6, b7, i5, i6⟩, ⟨b8, b9⟩, b10⟩ := h
  refine ⟨b1, ⟨dsk_le b4 (Nat.mul_le_mul_left _ (by omega)), Nat.le_succ_of_le b5, ar_s1 b6, ar_s3 b7, Nat.le_trans i5 (ar_x t), Nat.le_trans i6 (ar_y t)⟩, ⟨ar_s2 b8, b9⟩, fun q => ?_⟩
  obtain ⟨c1, c2, c3, c4⟩ := b10 q
  exact ⟨c1, c2, c3, ar_s2 c4⟩
theorem eT_6 (t : Nat) : 6 ≤ eT t ∧ 1 ≤ oT t := by
  unfold eT oT
  omega
theorem QZ_OUT {x : Int32 ⊕ Unit} {X : Int × tS} (h : QZ (PH t) b0 D J x τ X) : OUT (PH (t + 1)) b0 D (eT t) (oT t) x τ (X.1, (X.2, J)) := by
  rcases h with ⟨h1, h2, bi, sp, w, C', D', h3, h4, h5⟩ | ⟨h1, h2, bi, sp, C', D', h3, h4, h5⟩
  · exact ⟨bi, sp, w, C', D', h3, Or.inl (RO_ph (fun w A h => PH_mono h (Nat.le_succ _)) h4), EL_le h5 (Nat.zero_le _) (Nat.zero_le _), Or.inl ⟨h1, h2⟩⟩
  · exact ⟨bi, sp, fun _ => (0, 0), C', D', h3, Or.inr (OF_ph (fun w A h => PH_mono h (Nat.le_succ _)) h4), EL_le h5 (eT_6 t).1 (eT_6 t).2, Or.inr ⟨h1, h2⟩⟩
theorem step_U {mC : Option ((Int32 ⊕ Unit) × tM)} {mR : tM → Option (Int32 × tM)} {kk : tM → Option (Int32 × tM)} {f : tS → Nat → Int × tS} (hI : INV b0 t σ eb ob)
    (hC : ∀ C D A J N bi sp w, CM b0 σ C D → ST (PH t) bi sp w C D A J → BV t A J N → wp (FC b0) σ mC (fun v τ => ∀ s, QZ (PH t) b0 D J v τ (pubU A s f)))
    (hR : ∀ C D A J N bi sp w, CM b0 σ C D → ST (PH t) bi sp w C D A J → BV t A J N → ∀ τ, RM b0 J τ A N → wp (FR b0) τ (mR τ) (PU b0 N A J f))
    (hf : ∀ C D A J N bi sp w s, RO (PH t) bi sp w C D A J → BV t A J N → BV t (f A s).2 J N) :
    ∃ ρ, cll (grw σ (ckO b0 σ (b0 + 0) 10 (cly mC (fun v3 ρ4 => ckR b0 ρ4 (b0 + 73) 3 (fun n8 => ckI 0 n8 (some ((0 : Int32), sL ρ4 (b0 + 73) ((0 : Int32).toNatClampNeg) v3.toInt64)))) (fun ρ11 => some (1, ρ11))))) (fun v71 ρ72 => ckO b0 ρ72 (b0 + 35) 11 (cll (mR ρ72) (fun v76 ρ77 => ckO b0 ρ77 (b0 + 35) 11 (cll (m_X12_thrown b0 fu (b0 + 35) ρ77) (fun v81 ρ82 => if v81 = v71 then if v71 = 0 then ckR b0 ρ82 (b0 + 73) 3 (fun n88 => ckI 0 n88 (if lg_cmp (tL ρ82 (b0 + 73) ((0 : Int32).toNatClampNeg)) v76.toInt64 = 0 then kk ρ82 else some (0, ρ82))) else kk ρ82 else some (0, ρ82)))))) = kk ρ ∧ (tn σ ≤ tn ρ ∧ tu σ ≤ tu ρ) ∧ INV b0 (t + 1) ρ (eb + eT t) (ob + oT t) := by
  obtain ⟨C, D, A, J, N, bi, sp, w, i1, i2, i3, i4, i5, i6, i7⟩ := hI
  obtain ⟨ρ, e1, e2, e3, un, s, bi', sp', w', C', D', r1, r2, r3, r4, r5⟩ := op_w (fu := fu) (mC := mC) (mR := mR) (kk := kk) (X := fun _ s => ((pubU A s f).1, ((pubU A s f).2, J))) (Φ := PH (t + 1)) (e := eT t) (o := oT t) (N' := N) i1 i2 i3 (fun un hun => wp_mono (hC C D A J N bi sp w i2 i4 i5) (fun v τ _ q s => QZ_OUT (q s))) (fun τ q => wp_mono (hR C D A J N bi sp w i2 i4 i5 τ q) (fun v τ' _ z => by
      obtain ⟨s, z1, z2⟩ := z
      exact ⟨0, s, Nat.zero_le _, z1, z2⟩))
  have b : BV t (pubU A s f).2 J N := by
    have q0 := bv_sC i5 (sC_0 (v := 0)) (up2_rown (by decide))
    rcases i4 with q | q
    · have on : A 35 18 = 1 := q.2.2.2.2.2.2.1
      have : pubU A s f = f (up2 A 35 0 0) s := if_neg (by omega)
      rw [this]
      exact hf C D _ J N bi sp w s (RO_scr (PH_good t) PH_ok q sC_0) q0
    · have : pubU A s f = (0, up2 (up2 A 35 0 0) 35 0 1) := if_pos q.2.1
      rw [this]
      have r68 : up2 (up2 A 35 0 0) 35 0 1 68 = up2 A 35 0 0 68 := up2_rown (by decide)
      exact bv_sC q0 sC_0 r68
  exact ⟨ρ, e1, e2, C', D', (pubU A s f).2, J, N, bi', sp', w', e3, r3, r2, r4, bv_suc b, ar_k r5.1 i6, ar_k2 r5.2 i7⟩
end LAR
