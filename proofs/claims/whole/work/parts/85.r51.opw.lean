/-! ===== PURE: a call of the law: both sides, and the comparing ===== -/
def OUT (Φ : tPh) (b0 : Nat) (D : tD) (e o : Nat) (v : Int32 ⊕ Unit) (τ : tM) (X : Int × tP) : Prop := ∃ bi sp w C' D', CM b0 τ C' D' ∧ ST Φ bi sp w C' D' X.2.1 X.2.2 ∧ EL D D' e o ∧ ((v = .inl (iz X.1) ∧ X.2.1 35 0 = 0) ∨ (v = .inr () ∧ X.2.1 35 0 = 1))
section OPW
variable {Φ : tPh} {b0 fu : Nat} {σ τ : tM} {C : tS} {D : tD} {A : tS} {J : tJ} {N N' e o j : Nat}
theorem CM_73 {v : Int64} (h : CM b0 σ C D) : CM b0 (sL σ (b0 + 73) j v) C D := by
  obtain ⟨h1, h2, h3, pl, h5⟩ := h
  have s : ∀ a, a ≠ b0 + 73 → same σ (sL σ (b0 + 73) j v) a := fun a ha => same_sL ha
  exact ⟨CA_same h1 (layC_33 h1.lay (Nat.le_refl _) (fun o ho => s _ (by omega))) (fun o ho => rfl) (s (b0 + 11) (by omega)).2.2.1, h2, h3, pl, DY_same h5 (Nat.le_refl _) (fun a _ q => q) (fun _ _ _ => rfl) ⟨rfl, rfl, rfl⟩ (fun a q1 _ q3 _ => s a q3)⟩
theorem RM_73 {v : Int64} (h : RM b0 J σ A N) : RM b0 J (sL σ (b0 + 73) j v) A N := h
theorem cmp_self (x : Int64) : lg_cmp x x = 0 := by
  unfold lg_cmp
  simp
theorem op_w {mC : Option ((Int32 ⊕ Unit) × tM)} {mR : tM → Option (Int32 × tM)} {kk : tM → Option (Int32 × tM)} {X : Nat → Nat → Int × tP} (hT : tk σ (b0 + 73) = .inr (3, 1)) (h : CM b0 σ C D) (hm : RM b0 J σ A N)
    (hC : ∀ un, un ≤ N → wp (FC b0) σ mC (fun v τ => ∀ s, OUT Φ b0 D e o v τ (X un s)))
    (hR : ∀ τ, RM b0 J τ A N → wp (FR b0) τ (mR τ) (fun v τ' => ∃ un s, un ≤ N ∧ v = iz (X un s).1 ∧ RM b0 (X un s).2.2 τ' (X un s).2.1 N')) :
    ∃ ρ, cll (grw σ (ckO b0 σ (b0 + 0) 10 (cly mC (fun v3 ρ4 => ckR b0 ρ4 (b0 + 73) 3 (fun n8 => ckI 0 n8 (some ((0 : Int32), sL ρ4 (b0 + 73) ((0 : Int32).toNatClampNeg) v3.toInt64)))) (fun ρ11 => some (1, ρ11))))) (fun v71 ρ72 => ckO b0 ρ72 (b0 + 35) 11 (cll (mR ρ72) (fun v76 ρ77 => ckO b0 ρ77 (b0 + 35) 11 (cll (m_X12_thrown b0 fu (b0 + 35) ρ77) (fun v81 ρ82 => if v81 = v71 then if v71 = 0 then ckR b0 ρ82 (b0 + 73) 3 (fun n88 => ckI 0 n88 (if lg_cmp (tL ρ82 (b0 + 73) ((0 : Int32).toNatClampNeg)) v76.toInt64 = 0 then kk ρ82 else some (0, ρ82))) else kk ρ82 else some (0, ρ82)))))) = kk ρ ∧ (tn σ ≤ tn ρ ∧ tu σ ≤ tu ρ) ∧ tk ρ (b0 + 73) = .inr (3, 1) ∧ ∃ un s bi sp w C' D', un ≤ N ∧ RM b0 (X un s).2.2 ρ (X un s).2.1 N' ∧ CM b0 ρ C' D' ∧ ST Φ bi sp w C' D' (X un s).2.1 (X un s).2.2 ∧ EL D D' e o := by
  have L := h.lay
  have h74 := L.1
  obtain ⟨v, τ, eC, fC, -⟩ := hC 0 (Nat.zero_le _)
  have all : ∀ un, un ≤ N → ∀ s, OUT Φ b0 D e o v τ (X un s) := fun un hun s => by
    obtain ⟨v', τ', e', -, q⟩ := hC un hun
    rw [eC] at e'
    have e1 : (v, τ) = (v', τ') := by injection e'
    have ev : v = v' := congrArg Prod.fst e1
    have et : τ = τ' := congrArg Prod.snd e1
    rw [ev, et]
    exact q s
  have kτ : tk τ (b0 + 73) = .inr (3, 1) := by rw [(fC.2.2 _ (Or.inr rfl)).1]; exact hT
  have nτ := fC.1
  have hmτ := RM_FC hm fC
  -- the reference's side, from any such state
  have ref : ∀ T, RM b0 J T A N → b0 + 73 < b0 + tn T → tk T (b0 + 73) = .inr (3, 1) → (∃ C0 D0, CM b0 T C0 D0) → ∃ v76 ρ77 un s, mR T = some (v76, ρ77) ∧ un ≤ N ∧ v76 = iz (X un s).1 ∧ RM b0 (X un s).2.2 ρ77 (X un s).2.1 N' ∧ (tn T ≤ tn ρ77 ∧ tu T ≤ tu ρ77) ∧ same T ρ77 (b0 + 73) ∧ (∀ C0 D0, CM b0 T C0 D0 → CM b0 ρ77 C0 D0) := by
    intro T hT hn k c
    obtain ⟨v76, ρ77, eR, fR, un, s, hun, ev, hm'⟩ := hR T hT
    obtain ⟨C0, D0, c0⟩ := c
    refine ⟨v76, ρ77, un, s, eR, hun, ev, hm', ⟨fR.1, fR.2.1⟩, fR.2.2.2.2.1 _ hn (fun q => (c0.rf _ q).2.1 rfl), fun C1 D1 c1 => CM_FR c1 hT fR hm'⟩
  have thr : ∀ ρ A' J', RM b0 J' ρ A' N' → m_X12_thrown b0 fu (b0 + 35) ρ = some (nI (A' 35 0), ρ) := fun ρ A' J' q => by
    unfold m_X12_thrown
    rw [ckR_35 q.ra.lay, rf_0 q.ra]
    exact grw_same
  cases v with
  | inl v3 =>
    have cC : ∃ C0 D0, CM b0 τ C0 D0 := by
      obtain ⟨bi, sp, w, C', D', c, -⟩ := all 0 (Nat.zero_le _) 0
      exact ⟨C', D', c⟩
    have clsE : grw σ (ckO b0 σ (b0 + 0) 10 (cly mC (fun v3 ρ4 => ckR b0 ρ4 (b0 + 73) 3 (fun n8 => ckI 0 n8 (some ((0 : Int32), sL ρ4 (b0 + 73) ((0 : Int32).toNatClampNeg) v3.toInt64)))) (fun ρ11 => some (1, ρ11)))) = some (0, sL τ (b0 + 73) ((0 : Int32).toNatClampNeg) v3.toInt64) := by
      refine grw_p ?_ fC.1 fC.2.1
      rw [ckC_0 L, eC]
      unfold cly
      dsimp only
      rw [ckR_p (n := 1) kτ ⟨by omega, by omega⟩]
      rfl
    rw [clsE, cll_some]
    obtain ⟨C0, D0, c0⟩ := cC
    obtain ⟨v76, ρ77, un, s, eR, hun, ev, hm', hn', sm, cm⟩ := ref (sL τ (b0 + 73) ((0 : Int32).toNatClampNeg) v3.toInt64) (RM_73 hmτ) (by show b0 + 73 < b0 + tn τ; omega) kτ ⟨C0, D0, CM_73 c0⟩
    obtain ⟨bi, sp, w, C', D', c, st, el, dis⟩ := all un hun s
    have d0 : v3 = iz (X un s).1 ∧ (X un s).2.1 35 0 = 0 := by
      rcases dis with ⟨y1, y2⟩ | ⟨y1, -⟩
      · exact ⟨by injection y1, y2⟩
      · cases y1
    refine ⟨ρ77, ?_, ⟨Nat.le_trans fC.1 hn'.1, Nat.le_trans fC.2.1 hn'.2⟩, by rw [sm.1]; exact kτ, un, s, bi, sp, w, C', D', hun, hm', cm _ _ (CM_73 c), st, el⟩
    rw [ckR_35 (RM_73 hmτ).ra.lay, eR, cll_some, ckR_35 hm'.ra.lay, thr _ _ _ hm', cll_some, d0.2, if_pos (show nI 0 = (0 : Int32) from rfl), if_pos rfl, ckR_p (n := 1) (by rw [sm.1]; exact kτ) ⟨by omega, by have := hn'.1; have : tn τ ≤ tn ρ77 := this; omega⟩]
    have lL : tL ρ77 (b0 + 73) ((0 : Int32).toNatClampNeg) = v3.toInt64 := by
      rw [sm.2.2.1]
      exact rd_LLs _ _ _ _
    show (if lg_cmp (tL ρ77 (b0 + 73) ((0 : Int32).toNatClampNeg)) v76.toInt64 = 0 then kk ρ77 else some (0, ρ77)) = kk ρ77
    rw [lL, ev, ← d0.1, if_pos (cmp_self _)]
  | inr u =>
    have clsE : grw σ (ckO b0 σ (b0 + 0) 10 (cly mC (fun v3 ρ4 => ckR b0 ρ4 (b0 + 73) 3 (fun n8 => ckI 0 n8 (some ((0 : Int32), sL ρ4 (b0 + 73) ((0 : Int32).toNatClampNeg) v3.toInt64)))) (fun ρ11 => some (1, ρ11)))) = some (1, τ) := by
      refine grw_p ?_ fC.1 fC.2.1
      rw [ckC_0 L, eC]
      rfl
    rw [clsE, cll_some]
    obtain ⟨C0, D0, c0⟩ : ∃ C0 D0, CM b0 τ C0 D0 := by
      obtain ⟨bi, sp, w, C', D', c, -⟩ := all 0 (Nat.zero_le _) 0
      exact ⟨C', D', c⟩
    obtain ⟨v76, ρ77, un, s, eR, hun, ev, hm', hn', sm, cm⟩ := ref τ hmτ (by omega) kτ ⟨C0, D0, c0⟩
    obtain ⟨bi, sp, w, C', D', c, st, el, dis⟩ := all un hun s
    have d0 : (X un s).2.1 35 0 = 1 := by
      rcases dis with ⟨y1, -⟩ | ⟨-, y2⟩
      · cases y1
      · exact y2
    refine ⟨ρ77, ?_, ⟨Nat.le_trans fC.1 hn'.1, Nat.le_trans fC.2.1 hn'.2⟩, by rw [sm.1]; exact kτ, un, s, bi, sp, w, C', D', hun, hm', cm _ _ c, st, el⟩
    rw [ckR_35 hmτ.ra.lay, eR, cll_some, ckR_35 hm'.ra.lay, thr _ _ _ hm', cll_some, d0, if_pos (show nI 1 = (1 : Int32) from rfl), if_neg (show ¬ (1 : Int32) = 0 by decide)]
end OPW
