/-! ===== PURE: calls of the law: symlink, close ===== -/
section LAC
variable {Φ Ψ : tPh} {b0 fu : Nat} {σ τ : tM} {bi sp : Nat → Nat} {w : Nat → Nat × Nat} {C : tS} {D D' : tD} {A B E : tS} {J J' : tJ} {K t un n N N' s e o eb ob : Nat} {L : Nat} {xs : Nat → Int32} {rc : Nat → Nat → Nat → Int32 → tM → Option (Int32 × tM)} {x4 : Int32}
/-- a method that posts ahead, power off -/
theorem pubO_c (hΦ : goodT Φ) (hok : ∀ w A, Φ w A → okT A) (hm : ∀ w A, Φ w A → Ψ w A) {k : Unit → tM → Option ((Int32 ⊕ Unit) × tM)} {f : tS → Nat → Int × tS} (h : CM b0 σ C D) (q : OF Φ bi sp C D A J) (he : 8 + 36 * tcA A + rcA A ≤ e) (ho : 4 + 2 * tcA A ≤ o) :
    wp (FC b0) σ (grw σ (ckO b0 σ (b0 + 0) 10 (osm (tA σ (b0 + 0) 3) (fun a3 => ckO b0 σ a3 1 (clx (m_X1_postAhead b0 fu a3 σ) k))))) (fun v τ => ∀ s, AZQ Ψ b0 D K e o v τ (pubX A J un s f)) := by
  have L := h.lay
  refine wp_grw (FC_good b0) ?_
  rw [ckC_0 L, osm_p (rfC_0_3 L), ckC_20 L]
  have sc := sC_0 (A := A) (v := 0)
  have hp : ∀ s, pubX A J un s f = match uaX (up2 A 35 0 0) J un with | .inl p => ((f p.1 s).1, ((f p.1 s).2, p.2)) | .inr p => (0, (up2 p.1 35 0 1, p.2)) := fun _ => rfl
  have q' := OF_scr hΦ hok q sc
  have ux : uaX (up2 A 35 0 0) J un = .inr (up2 A 35 0 0, J) := by
    unfold uaX
    rw [if_pos q'.2.1]
  have pa := postAhead_off (fu := fu) (K := K) (un := un) (n := 0) (m := 0) (w := fun _ => (0, 0)) hΦ hok h q'
  rw [ux] at pa
  refine wp_clx (FC_good b0) pa (fun v ρ z => by cases z.1) (fun ρ z s => ?_)
  obtain ⟨-, sp', C', D', z1, z2, z3⟩ := z
  rw [hp s, ux]
  exact Or.inr ⟨rfl, up2_s (up2 A 35 0 0) 35 0 1, bi, sp', C', D', z1, OF_ph hm (OF_scr hΦ hok z2 (sC_0 (v := 1))), EL_le z3 (l_6 he) (l_1 ho)⟩
theorem st_cs (st : ST Φ bi sp w C D A J) : A 35 18 = 1 ∨ OF Φ bi sp C D A J := by
  rcases st with q | q
  · exact Or.inl q.2.2.2.2.2.2.1
  · exact Or.inr q
theorem law_695 (g : ∀ k : Option (Int32 × tM), ckI (x4 + 1) L k = k) (ht : t ≤ 63) (hu : 1200000 ≤ fu) (hI : INV b0 t σ eb ob) : ∃ ρ, J_L_law_695 b0 fu L xs rc (b0 + 0) (b0 + 35) (b0 + 73) x4 σ = J_L_law_748 b0 fu L xs rc (b0 + 0) (b0 + 35) (b0 + 73) x4 ρ ∧ (tn σ ≤ tn ρ ∧ tu σ ≤ tu ρ) ∧ INV b0 (t + 1) ρ (eb + eT t) (ob + oT t) := by
  unfold J_L_law_695 m_L_close
  simp only [g]
  generalize xs (x4 + 1).toNatClampNeg = x
  refine step_T (fu := fu) (mC := m_X10_close b0 fu (b0 + 0) x σ) (mR := fun τ => m_X12_close b0 fu (b0 + 35) x τ) (kk := fun ρ => J_L_law_748 b0 fu L xs rc (b0 + 0) (b0 + 35) (b0 + 73) x4 ρ) (f := clY x) ht hI (fun C D A J N bi sp w c st bv un hun K e o hd he ho => ?_) (fun C D A J N bi sp w c st bv τ q => ?_) (fun A p bi sp w C' D' s af hi pat h34 h57 ro => MV_cl hi ro.2.1 ro.2.2.1)
  · obtain ⟨n1, n2, n3, n4⟩ := bv_N ht bv
    rcases st_cs st with on | q
    · exact wp_mono (close_c (by omega) c st hd (bv_hg ht bv) (Nat.lt_of_le_of_lt (Nat.le_trans hun n1) (by decide)) he ho (bv.2.2.2 on).1.1) (fun v τ _ z s => AZ_ph (z s))
    · exact pubO_c (PH_good t) PH_ok (fun _ _ h => PH_mono h (Nat.le_succ _)) c q he ho
  · obtain ⟨n1, n2, n3, n4⟩ := bv_N ht bv
    obtain ⟨p1, p2, p3⟩ := ref_pre ht c st bv
    refine wp_mono (close_wp (fu := fu) q (by omega) p1 p2 hu (fun un p hun e n ex => ?_)) (fun v τ' _ z => PQ_le z (by omega))
    obtain ⟨af, hi, bd, h34, h57, sp', C', D', ro⟩ := p3 un p hun e
    have n1 := (hd_HO hi.1 ex).1
    exact ⟨n1, mf1_ok (SR_hdl (h := x.toNatClampNeg) (v := 0) ro.2.1) n1 (by rw [up2_o (by decide)]; omega)⟩
end LAC
