/-! ===== PURE: the invariant of the law's loop; a call on the tree ===== -/
def INV (b0 t : Nat) (σ : tM) (eb ob : Nat) : Prop := ∃ C D A J N bi sp w, tk σ (b0 + 73) = .inr (3, 1) ∧ CM b0 σ C D ∧ RM b0 J σ A N ∧ ST (PH t) bi sp w C D A J ∧ BV t A J N ∧ dE D ≤ eb + 34 * kpn D ∧ dO D ≤ ob + 2 * kpn D
def eT (t : Nat) : Nat := 14 + 36 * (20 * t + 40) + (200 * t + 700)
def oT (t : Nat) : Nat := 5 + 2 * (20 * t + 40)
section INS
variable {Φ : tPh} {b0 fu : Nat} {σ τ : tM} {bi sp : Nat → Nat} {w : Nat → Nat × Nat} {C : tS} {D D' : tD} {A B E : tS} {J J' : tJ} {K t un n N N' s e o eb ob : Nat}
theorem AZ_OUT {v : Int32 ⊕ Unit} {X : Int × tP} (h : AZQ Φ b0 D K e o v τ X) : OUT Φ b0 D e o v τ X := by
  rcases h with ⟨h1, h2, bi, sp, w, C', D', h3, h4, h5, -⟩ | ⟨h1, h2, bi, sp, C', D', h3, h4, h5⟩
  · exact ⟨bi, sp, w, C', D', h3, Or.inl h4, h5, Or.inl ⟨h1, h2⟩⟩
  · exact ⟨bi, sp, fun _ => (0, 0), C', D', h3, Or.inr h4, h5, Or.inr ⟨h1, h2⟩⟩
theorem eT_le {x y t : Nat} (h : x ≤ 20 * t + 40) (g : y ≤ 200 * t + 700) : 8 + 36 * x + y ≤ eT t := by
  unfold eT
  omega
theorem oT_le {x t : Nat} (h : x ≤ 20 * t + 40) : 4 + 2 * x ≤ oT t := by
  unfold oT
  omega
theorem ar_k {a b k k' e x : Nat} (h : a + 34 * k ≤ b + 34 * k' + x) (g : b ≤ e + 34 * k) : a ≤ e + x + 34 * k' := by omega
theorem ar_k2 {a b k k' e x : Nat} (h : a + 2 * k ≤ b + 2 * k' + x) (g : b ≤ e + 2 * k) : a ≤ e + x + 2 * k' := by omega
theorem step_T {mC : Option ((Int32 ⊕ Unit) × tM)} {mR : tM → Option (Int32 × tM)} {kk : tM → Option (Int32 × tM)} {f : tS → Nat → Int × tS} (ht : t ≤ 63) (hI : INV b0 t σ eb ob)
    (hC : ∀ C D A J N bi sp w, CM b0 σ C D → ST (PH t) bi sp w C D A J → BV t A J N → ∀ un, un ≤ N → ∀ K e o, dsk A (K + 2104102) → 8 + 36 * tcA A + rcA A ≤ e → 4 + 2 * tcA A ≤ o → wp (FC b0) σ mC (fun v τ => ∀ s, AZQ (PH (t + 1)) b0 D K e o v τ (pubX A J un s f)))
    (hR : ∀ C D A J N bi sp w, CM b0 σ C D → ST (PH t) bi sp w C D A J → BV t A J N → ∀ τ, RM b0 J τ A N → wp (FR b0) τ (mR τ) (PQ b0 N (N + 600) A J f))
    (hf : ∀ A (p : tP) bi sp w C' D' s, AF A p.1 → HI p.1 → patOk p.1 → p.1 35 34 + 310 < 1000000 → p.1 35 57 ≤ 4000 → RO (PH t) bi sp w C' D' p.1 p.2 → MV p.1 (f p.1 s).2) :
    ∃ ρ, cll (grw σ (ckO b0 σ (b0 + 0) 10 (cly mC (fun v3 ρ4 => ckR b0 ρ4 (b0 + 73) 3 (fun n8 => ckI 0 n8 (some ((0 : Int32), sL ρ4 (b0 + 73) ((0 : Int32).toNatClampNeg) v3.toInt64)))) (fun ρ11 => some (1, ρ11))))) (fun v71 ρ72 => ckO b0 ρ72 (b0 + 35) 11 (cll (mR ρ72) (fun v76 ρ77 => ckO b0 ρ77 (b0 + 35) 11 (cll (m_X12_thrown b0 fu (b0 + 35) ρ77) (fun v81 ρ82 => if v81 = v71 then if v71 = 0 then ckR b0 ρ82 (b0 + 73) 3 (fun n88 => ckI 0 n88 (if lg_cmp (tL ρ82 (b0 + 73) ((0 : Int32).toNatClampNeg)) v76.toInt64 = 0 then kk ρ82 else some (0, ρ82))) else kk ρ82 else some (0, ρ82)))))) = kk ρ ∧ (tn σ ≤ tn ρ ∧ tu σ ≤ tu ρ) ∧ INV b0 (t + 1) ρ (eb + eT t) (ob + oT t) := by
  obtain ⟨C, D, A, J, N, bi, sp, w, i1, i2, i3, i4, i5, i6, i7⟩ := hI
  have hd : dsk A (0 + 2104102) := dsk_le i5.2.1.1 (by omega)
  obtain ⟨ρ, e1, e2, e3, un, s, bi', sp', w', C', D', r1, r2, r3, r4, r5⟩ := op_w (fu := fu) (mC := mC) (mR := mR) (kk := kk) (X := fun un s => pubX A J un s f) (Φ := PH (t + 1)) (e := eT t) (o := oT t) (N' := N + 600) i1 i2 i3 (fun un hun => wp_mono (hC C D A J N bi sp w i2 i4 i5 un hun 0 (eT t) (oT t) hd (eT_le i5.2.1.2.2.2.2.1 i5.2.1.2.2.2.2.2) (oT_le i5.2.1.2.2.2.2.1)) (fun v τ _ q s => AZ_OUT (q s))) (fun τ q => hR C D A J N bi sp w i2 i4 i5 τ q)
  have b : BV (t + 1) (pubX A J un s f).2.1 (pubX A J un s f).2.2 (N + 600) := bv_tree ht i2 i4 i5 r1 (Nat.le_refl _) (fun p sp2 C2 D2 a1 a2 a3 a4 a5 => hf A p bi sp2 w C2 D2 s a1 a2 a3 a4 (by rw [a1.2.1.2.2.2]; exact i5.1.2.1) a5)
  exact ⟨ρ, e1, e2, C', D', (pubX A J un s f).2.1, (pubX A J un s f).2.2, N + 600, bi', sp', w', e3, r3, r2, r4, b, ar_k r5.1 i6, ar_k2 r5.2 i7⟩
end INS
