/-! ===== PURE: the public methods that only read, in both ===== -/
/-- how a method ends that leaves the journal as it is -/
def QZ (Φ : tPh) (b0 : Nat) (D : tD) (J : tJ) (v : Int32 ⊕ Unit) (τ : tM) (X : Int × tS) : Prop :=
  (v = .inl (iz X.1) ∧ X.2 35 0 = 0 ∧ ∃ bi sp w C' D', CM b0 τ C' D' ∧ RO Φ bi sp w C' D' X.2 J ∧ EL D D' 0 0) ∨
  (v = .inr () ∧ X.2 35 0 = 1 ∧ ∃ bi sp C' D', CM b0 τ C' D' ∧ OF Φ bi sp C' D' X.2 J ∧ EL D D' 6 1)
/-- handles lead to files -/
def HO (A : tS) : Prop := ∀ h, h < 16 → A 71 h ≠ 0 → A 71 h - 1 < 64 ∧ nd A (A 71 h - 1) 0 = 1
section RDM
variable {Φ : tPh} {b0 fu : Nat} {σ τ : tM} {bi sp : Nat → Nat} {w : Nat → Nat × Nat} {C C' X : tS} {D D' : tD} {A B : tS} {J J' : tJ} {K n m k r t : Nat}
theorem EL_r : EL D D 0 0 := ⟨by omega, by omega⟩
theorem pubR_c (hΦ : goodT Φ) (hok : ∀ w A, Φ w A → okT A) {k : Unit → tM → Option ((Int32 ⊕ Unit) × tM)} {f : tS → Nat → Int × tS} (h : CM b0 σ C D) (hR : ST Φ bi sp w C D A J)
    (hk : RO Φ bi sp w C D (up2 A 35 0 0) J → up2 A 35 0 0 35 0 = 0 → wp (FC b0) σ (k () σ) (fun v τ => ∀ s, QZ Φ b0 D J v τ (f (up2 A 35 0 0) s))) :
    wp (FC b0) σ (grw σ (ckO b0 σ (b0 + 0) 10 (osm (tA σ (b0 + 0) 0) (fun a3 => ckO b0 σ a3 0 (clx (m_X0_demandPower b0 fu a3 σ) k))))) (fun v τ => ∀ s, QZ Φ b0 D J v τ (pubU A s f)) := by
  have L := h.lay
  refine wp_grw (FC_good b0) ?_
  rw [ckC_0 L, osm_p (rfC_0_0 L), ckC_1 L]
  rcases hR with q | q
  · have on : A 35 18 = 1 := q.2.2.2.2.2.2.1
    have q' := RO_scr hΦ hok q (sC_0 (A := A) (v := 0))
    rw [power_on h q]
    have e : ∀ s, pubU A s f = f (up2 A 35 0 0) s := fun s => by
      unfold pubU
      rw [if_neg (by omega)]
    refine wp_mono (hk q' (up2_s A 35 0 0)) (fun v ρ _ z s => ?_)
    rw [e s]
    exact z s
  · have off : A 35 18 = 0 := q.2.1
    refine wp_clx (FC_good b0) (power_off (fu := fu) hΦ hok h q) (fun v ρ z => by cases z.1) (fun ρ z s => ?_)
    obtain ⟨-, z1, z2, z3⟩ := z
    have e : pubU A s f = (0, up2 (up2 A 35 0 0) 35 0 1) := by
      unfold pubU
      rw [if_pos off]
    rw [e]
    exact Or.inr ⟨rfl, up2_s (up2 A 35 0 0) 35 0 1, bi, sp, C, _, z1, OF_scr hΦ hok (OF_scr hΦ hok z2 (sC_0 (v := 0))) (sC_0 (v := 1)), z3⟩
/-- memory is told by its own cells -/
theorem SR_c (h : SR bi w C A) (hc : ∀ p, (10 ≤ p ∧ p ≤ 19) ∨ p = 32 ∨ p = 100 → C' p = C p) : SR bi w C' A := by
  have c10 := hc 10 (by omega)
  have c11 := hc 11 (by omega)
  have c12 := hc 12 (by omega)
  refine ⟨rk_by (ci_cong h.rk.1 (fun q _ => by rw [c10]) (hc 15 (by omega)) (hc 16 (by omega)) (hc 17 (by omega))) (sk_cong h.rk.2.1 c12 (fun q _ => by rw [c10])) (by rw [c10]) h.rk, h.ti, by rw [c11]; exact h.mr, by rw [c11]; exact h.fb, ?_, ?_, h.ok, ?_⟩
  · have := h.bj
    unfold BJ at this ⊢
    rw [c10]
    exact this
  · have := h.zm
    unfold ZM at this ⊢
    rw [c10, c12, hc 13 (by omega), hc 14 (by omega), hc 15 (by omega), hc 16 (by omega), hc 17 (by omega), hc 19 (by omega), hc 32 (by omega)]
    exact this
  · have := h.gh
    unfold GH at this ⊢
    rw [c11, hc 15 (by omega), hc 16 (by omega), hc 100 (by omega)]
    exact this
/-- the class's cells that a walk leaves other -/
theorem RO_cl (hΦ : goodT Φ) (hok : ∀ w A, Φ w A → okT A) (h : RO Φ bi sp w C D A J) (hc : ∀ p, p ≠ 24 → p ≠ 25 → C' p = C p) : RO Φ bi sp w C' D A J := by
  obtain ⟨⟨r1, r2, r3, r4, r5, r6, r7, r8, r9, r10⟩, hSR, hT, hLc, hHc, hgh, hon, hnr, h46⟩ := h
  refine ⟨⟨DR_all r1 (fun p hp => hc p (by omega) (by omega)) rfl rfl (fun _ _ _ _ _ _ => rfl) (fun _ _ _ => rfl) (fun _ _ => rfl), JR_all r2 (fun _ => by rw [hc 20 (by decide) (by decide)]) ⟨rfl, rfl, rfl, rfl⟩ (fun _ _ => rfl), r3, r4, r5, r6, r7, ?_, ?_, TP_all r10 (fun p hp => hc p (by omega) (by omega)) (fun _ _ => rfl) rfl⟩, ?_, hT, hLc, hHc, ?_, hon, hnr, h46⟩
  · unfold SPJ at r8 ⊢
    rw [hc 20 (by decide) (by decide)]
    exact r8
  · obtain ⟨m1, m2, m3, m4⟩ := r9
    unfold MI
    rw [hc 10 (by decide) (by decide), hc 11 (by decide) (by decide)]
    exact ⟨ci_cong m1 (fun q _ => by rw [hc 10 (by decide) (by decide)]) (hc 15 (by decide) (by decide)) (hc 16 (by decide) (by decide)) (hc 17 (by decide) (by decide)), m2, m3, m4⟩
  · exact SR_c hSR (fun p hp => hc p (by omega) (by omega))
  · rw [hc 100 (by decide) (by decide)]
    exact hgh
/-- where a walk comes to -/
theorem wk_us (hD : DI w A) (h0 : nd A 0 0 = 2) (hT : okT A) (fo : Bool) : ∀ m d lk cs, d < 64 → nd A d 0 ≠ 0 → (fo = true → nd A d 0 ≠ 3) → ∀ x : Nat, wk A fo m d lk cs = (x : Int) → nd A x 0 ≠ 0 ∧ (fo = true → nd A x 0 ≠ 3)
  | 0, d, lk, cs, _, _, _, x, h => by
    unfold wk at h
    omega
  | m + 1, d, lk, [], hd, k0, k3, x, h => by
    simp only [wk] at h
    have : d = x := by omega
    rw [← this]
    exact ⟨k0, k3⟩
  | m + 1, d, lk, c :: cs, hd, k0, k3, x, h => by
    simp only [wk] at h
    split at h
    · omega
    · rename_i h2
      have h2 : nd A d 0 = 2 := Classical.byContradiction h2
      split at h
      · omega
      · split at h
        · exact wk_us hD h0 hT fo m d lk cs hd k0 k3 x h
        · split at h
          · have p := (hD.1 d hd h2).2.1
            exact wk_us hD h0 hT fo m (nd A d 3) lk cs (nd_3 hT hd) (by omega) (fun _ => by omega) x h
          · split at h
            · omega
            · rename_i q
              have l := eN_f hT q
              have u := (hD.2.1 d (fA A d (fun i => c.getD i 0) c.length) hd h2 (by omega) (by omega)).1
              split at h
              · split at h
                · omega
                · refine wk_us hD h0 hT fo m _ (lk + 1) _ ?_ ?_ ?_ x h
                  · split <;> omega
                  · split
                    · omega
                    · omega
                  · intro _
                    split
                    · omega
                    · omega
              · rename_i q2
                exact wk_us hD h0 hT fo m _ lk cs l u (fun e k => q2 ⟨k, Or.inr e⟩) x h
theorem wt_us {v x : Nat} {fo : Bool} (hP : PH t w A) (h : wtA A v fo = (x : Int)) : x < 64 ∧ nd A x 0 ≠ 0 ∧ (fo = true → nd A x 0 ≠ 3) := by
  have b := wt_bd (w := v) (fo := fo) hP.1
  have := wk_us hP.di hP.root hP.1 fo 1000 0 0 _ (by omega) (by rw [hP.root]; decide) (fun _ => by rw [hP.root]; decide) x h
  exact ⟨by omega, this⟩
theorem RO_q (hΦ : goodT Φ) (hok : ∀ w A, Φ w A → okT A) (h : CM b0 τ C' D) (hR : RO Φ bi sp w C D A J) (h0 : A 35 0 = 0) (hc : ∀ p, p ≠ 24 → p ≠ 25 → C' p = C p) {v : Int} (s : sC A B) (hB : B 35 0 = 0) : QZ Φ b0 D J (.inl (iz v)) τ (v, B) := Or.inl ⟨rfl, hB, bi, sp, w, C', D, h, RO_scr hΦ hok (RO_cl hΦ hok hR hc) s, EL_r⟩
theorem sC_51 {s : Nat} : sC A (up2 A 35 51 s) := ⟨fun p hp => up2_rown (by omega), fun q _ h _ => up2_j h⟩
theorem info_c {x : Int32} {fo : Bool} (hu : 10000 ≤ fu) (h : CM b0 σ C D) (hR : ST (PH t) bi sp w C D A J) (hP : patOk A) : wp (FC b0) σ (m_X10_info b0 fu (b0 + 0) x (nI (b2n fo)) σ) (fun v τ => ∀ s, QZ (PH t) b0 D J v τ (pubU A s (inY x fo))) := by
  have hΦ := PH_good t
  have hok : ∀ w A, PH t w A → okT A := PH_ok
  have hP : patOk (up2 A 35 0 0) := by
    unfold patOk at hP ⊢
    intro v hv
    rw [up2_rown (show (64 : Nat) ≠ 35 by decide), up2_rown (show 62 + v ≠ 35 by omega)]
    exact hP v hv
  refine pubR_c hΦ hok h hR (fun q h0 => ?_)
  generalize up2 A 35 0 0 = A at *
  have L := h.lay
  have S := q.2.1
  have P := q.2.2.1
  unfold J_X10_info_17 J_X10_info_50
  by_cases c0 : x < 0
  · rw [if_pos c0]
    refine wp_ret ((FC_good b0).1 _) (fun s => ?_)
    have e : inY x fo A s = (-9, A) := if_pos (Or.inl c0)
    rw [e]
    exact RO_q (v := -9) hΦ hok h q h0 (fun _ _ _ => rfl) (sC_r) h0
  rw [if_neg c0]
  obtain ⟨m, hm, rfl⟩ := nI_of c0
  by_cases c6 : m ≤ 6
  · have n6 : ¬ (nI m < 0 ∨ (6 : Int32) < nI m) := fun r => by
      rcases r with r | r
      · exact c0 r
      · have := (nI_ltP (a := 6) (b := m) (by omega) hm).mp r
        omega
    rw [if_pos (show nI m ≤ 6 from (nI_leP (a := m) (b := 6) hm (by omega)).mpr c6), ckC_0 L, osm_p (rfC_0_5 L), osm_p (rfC_0_7 L), ckC_24 L]
    refine wp_bind (FC_good b0) (walkWhole_c (fu := fu) (w := 0) (by omega) h S.rk.1 (VW_of S P.di) q.1.2.2.2.2.2.2.2.2.2 hP fo hu) ?_
    rintro v ρ ⟨e1, C2, q1, q2⟩
    have e1 : v = iz (wtA A 0 fo) := e1
    obtain ⟨a1, a2⟩ := wt_bd (w := 0) (fo := fo) P.1
    have ge := iz_ge a1 a2
    subst e1
    by_cases c : wtA A 0 fo < 0
    · rw [if_neg (fun q => by have := ge.mp q; omega)]
      refine wp_ret ((FC_good b0).1 _) (fun s => ?_)
      have e : inY (nI m) fo A s = (wtA A 0 fo, up2 A 35 51 s) := by
        unfold inY
        rw [if_neg n6, if_pos c]
      rw [e]
      exact RO_q hΦ hok q1 q h0 q2 sC_51 (by rw [up2_j (by decide)]; exact h0)
    · rw [if_pos (ge.mpr (by omega))]
      obtain ⟨y, hy⟩ : ∃ y : Nat, wtA A 0 fo = (y : Int) := ⟨(wtA A 0 fo).toNat, by omega⟩
      obtain ⟨y1, y2, -⟩ := wt_us P hy
      have L2 := q1.lay
      have S2 : SR bi w C2 A := SR_c S (fun p hp => q2 p (by omega) (by omega))
      rw [hy, iz_n, ckC_0 L2, osm_p (rfC_0_2 L2), ckC_18 L2, describe_c q1.ca S2.rk.1 y1 c6 (sz_le S2 y1) hu, cll_some, deS_eq S2 P.di y1 y2 (by omega)]
      refine wp_ret ((FC_good b0).1 _) (fun s => ?_)
      have e : inY (nI m) fo A s = (((tdA A y m : Nat) : Int), up2 A 35 51 s) := by
        unfold inY
        rw [if_neg n6, if_neg c, hy, Int.toNat_natCast, nI_cl hm]
      rw [e, ← iz_n]
      exact RO_q hΦ hok q1 q h0 q2 sC_51 (by rw [up2_j (by decide)]; exact h0)
  · have n6 : nI m < 0 ∨ (6 : Int32) < nI m := Or.inr ((nI_ltP (a := 6) (b := m) (by omega) hm).mpr (by omega))
    rw [if_neg (show ¬ nI m ≤ 6 from fun r => c6 ((nI_leP (a := m) (b := 6) hm (by omega)).mp r))]
    refine wp_ret ((FC_good b0).1 _) (fun s => ?_)
    have e : inY (nI m) fo A s = (-9, A) := if_pos n6
    rw [e]
    exact RO_q (v := -9) hΦ hok h q h0 (fun _ _ _ => rfl) (sC_r) h0
end RDM
