/-! ===== PURE: more public methods that only read, in both ===== -/
section RDN
variable {Φ : tPh} {b0 fu : Nat} {σ τ : tM} {bi sp : Nat → Nat} {w : Nat → Nat × Nat} {C C' X : tS} {D D' : tD} {A B : tS} {J J' : tJ} {K n m k r t : Nat}
theorem HO_0 {v : Nat} (h : HO A) : HO (up2 A 35 0 v) := by
  unfold HO nd at h ⊢
  rw [up2_rown (show (71 : Nat) ≠ 35 by decide), up2_rown (show (36 : Nat) ≠ 35 by decide)]
  exact h
theorem patOk_0 {v : Nat} (hP : patOk A) : patOk (up2 A 35 0 v) := by
  unfold patOk at hP ⊢
  intro v hv
  rw [up2_rown (show (64 : Nat) ≠ 35 by decide), up2_rown (show 62 + v ≠ 35 by omega)]
  exact hP v hv
theorem hd_HO {x : Int32} (h : HO A) (e : hdA A x = some n) : n < 64 ∧ nd A n 0 = 1 := by
  obtain ⟨y, y16, -, y1, y2, -⟩ := hd_some e
  have := h y y16 y1
  rw [y2] at this
  exact this
theorem neg_nI {n : Nat} (hn : n < 2147483648) : ¬ nI n < (0 : Int32) := nI_pos hn
theorem infoOf_c {x y : Int32} (hu : 10000 ≤ fu) (h : CM b0 σ C D) (hR : ST (PH t) bi sp w C D A J) (hH : HO A) : wp (FC b0) σ (m_X10_infoOf b0 fu (b0 + 0) x y σ) (fun v τ => ∀ s, QZ (PH t) b0 D J v τ (pubU A s (ioY x y))) := by
  have hΦ := PH_good t
  have hok : ∀ w A, PH t w A → okT A := PH_ok
  have hH := HO_0 (v := 0) hH
  refine pubR_c hΦ hok h hR (fun q h0 => ?_)
  generalize up2 A 35 0 0 = A at *
  have L := h.lay
  have S := q.2.1
  have P := q.2.2.1
  have id : ∀ v : Int, QZ (PH t) b0 D J (.inl (iz v)) σ (v, A) := fun v => RO_q hΦ hok h q h0 (fun _ _ _ => rfl) sC_r h0
  unfold J_X10_infoOf_27
  rw [ckC_0 L, fileOf_c h.ca S.zm.2.2.2.2.2.2.2.2.1 x, cll_some]
  cases e : hdA A x with
  | none =>
    show wp (FC b0) σ (if (-9 : Int32) < 0 then _ else _) _
    rw [if_pos (by decide)]
    refine wp_ret ((FC_good b0).1 _) (fun s => ?_)
    have ey : ioY x y A s = (-9, A) := by
      unfold ioY
      rw [e]
    rw [ey]
    exact id (-9)
  | some n =>
    obtain ⟨n1, n2⟩ := hd_HO hH e
    show wp (FC b0) σ (if nI n < 0 then _ else _) _
    rw [if_neg (neg_nI (by omega))]
    have ey : ∀ s, ioY x y A s = if y < 0 ∨ (6 : Int32) < y then (-9, A) else (((tdA A n y.toNatClampNeg : Nat) : Int), A) := fun s => by
      unfold ioY
      rw [e]
    by_cases c0 : y < 0
    · rw [if_pos c0]
      refine wp_ret ((FC_good b0).1 _) (fun s => ?_)
      rw [ey s, if_pos (Or.inl c0)]
      exact id (-9)
    rw [if_neg c0]
    obtain ⟨m, hm, rfl⟩ := nI_of c0
    by_cases c6 : m ≤ 6
    · have n6 : ¬ (nI m < 0 ∨ (6 : Int32) < nI m) := fun r => by
        rcases r with r | r
        · exact c0 r
        · have := (nI_ltP (a := 6) (b := m) (by omega) hm).mp r
          omega
      rw [if_pos (show nI m ≤ 6 from (nI_leP (a := m) (b := 6) hm (by omega)).mpr c6), ckC_0 L, osm_p (rfC_0_2 L), ckC_18 L, describe_c h.ca S.rk.1 n1 c6 (sz_le S n1) hu, cll_some, deS_eq S P.di n1 (by omega) (by omega)]
      refine wp_ret ((FC_good b0).1 _) (fun s => ?_)
      rw [ey s, if_neg n6, nI_cl hm, ← iz_n]
      exact id _
    · have n6 : nI m < 0 ∨ (6 : Int32) < nI m := Or.inr ((nI_ltP (a := 6) (b := m) (by omega) hm).mpr (by omega))
      rw [if_neg (show ¬ nI m ≤ 6 from fun r => c6 ((nI_leP (a := m) (b := 6) hm (by omega)).mp r))]
      refine wp_ret ((FC_good b0).1 _) (fun s => ?_)
      rw [ey s, if_pos n6]
      exact id (-9)
theorem byteAt_c {x y : Int32} (h : CM b0 σ C D) (hR : ST (PH t) bi sp w C D A J) (hH : HO A) : wp (FC b0) σ (m_X10_byteAt b0 fu (b0 + 0) x y σ) (fun v τ => ∀ s, QZ (PH t) b0 D J v τ (pubU A s (baY x y))) := by
  have hΦ := PH_good t
  have hok : ∀ w A, PH t w A → okT A := PH_ok
  have hH := HO_0 (v := 0) hH
  refine pubR_c hΦ hok h hR (fun q h0 => ?_)
  generalize up2 A 35 0 0 = A at *
  have L := h.lay
  have S := q.2.1
  have id : ∀ v : Int, QZ (PH t) b0 D J (.inl (iz v)) σ (v, A) := fun v => RO_q hΦ hok h q h0 (fun _ _ _ => rfl) sC_r h0
  unfold J_X10_byteAt_33
  rw [ckC_0 L, fileOf_c h.ca S.zm.2.2.2.2.2.2.2.2.1 x, cll_some]
  cases e : hdA A x with
  | none =>
    show wp (FC b0) σ (if (-9 : Int32) < 0 then _ else _) _
    rw [if_pos (by decide)]
    refine wp_ret ((FC_good b0).1 _) (fun s => ?_)
    have ey : baY x y A s = (-9, A) := by
      unfold baY
      rw [e]
    rw [ey]
    exact id (-9)
  | some n =>
    obtain ⟨n1, n2⟩ := hd_HO hH e
    show wp (FC b0) σ (if nI n < 0 then _ else _) _
    rw [if_neg (neg_nI (by omega))]
    have ey : ∀ s, baY x y A s = if y < 0 ∨ nd A n 1 ≤ y.toNatClampNeg then (-9, A) else (((boA A n y.toNatClampNeg : Nat) : Int), A) := fun s => by
      unfold baY
      rw [e]
    have b1 := (nd_k S.ok n1).2.1
    obtain ⟨k0, k1⟩ := hd_c S.ok S.mr n1
    have k3 := (k1 (by omega)).2.2
    rw [if_neg (by omega)] at k3
    by_cases c0 : y < 0
    · rw [if_pos c0]
      refine wp_ret ((FC_good b0).1 _) (fun s => ?_)
      rw [ey s, if_pos (Or.inl c0)]
      exact id (-9)
    rw [if_neg c0]
    obtain ⟨m, hm, rfl⟩ := nI_of c0
    rw [ckC_0 L, osm_p (rfC_0_2 L), ckC_18 L, size_c h.ca n1, cll_some, k3, if_t hm (by omega)]
    by_cases c : m < nd A n 1
    · rw [if_pos c, ckC_0 L, osm_p (rfC_0_2 L), ckC_18 L, octetAt_c h.ca S.rk.1 n1 (by omega), cll_some, oct_eq S n1 n2 (by omega)]
      refine wp_ret ((FC_good b0).1 _) (fun s => ?_)
      rw [ey s, nI_cl hm, if_neg (fun r => by rcases r with r | r; exact c0 r; omega), ← iz_n]
      exact id _
    · rw [if_neg c]
      refine wp_ret ((FC_good b0).1 _) (fun s => ?_)
      rw [ey s, nI_cl hm, if_pos (Or.inr (by omega))]
      exact id (-9)
theorem blockOf_c {x y : Int32} (h : CM b0 σ C D) (hR : ST (PH t) bi sp w C D A J) (hH : HO A) : wp (FC b0) σ (m_X10_blockOf b0 fu (b0 + 0) x y σ) (fun v τ => ∀ s, QZ (PH t) b0 D J v τ (pubU A s (bkY x y))) := by
  have hΦ := PH_good t
  have hok : ∀ w A, PH t w A → okT A := PH_ok
  have hH := HO_0 (v := 0) hH
  refine pubR_c hΦ hok h hR (fun q h0 => ?_)
  generalize up2 A 35 0 0 = A at *
  have L := h.lay
  have S := q.2.1
  have id : ∀ v : Int, QZ (PH t) b0 D J (.inl (iz v)) σ (v, A) := fun v => RO_q hΦ hok h q h0 (fun _ _ _ => rfl) sC_r h0
  unfold J_X10_blockOf_28 J_X10_blockOf_63
  rw [ckC_0 L, fileOf_c h.ca S.zm.2.2.2.2.2.2.2.2.1 x, cll_some]
  cases e : hdA A x with
  | none =>
    show wp (FC b0) σ (if (-9 : Int32) < 0 then _ else _) _
    rw [if_pos (by decide)]
    refine wp_ret ((FC_good b0).1 _) (fun s => ?_)
    have ey : bkY x y A s = (-9, A) := by
      unfold bkY
      rw [e]
    rw [ey]
    exact id (-9)
  | some n =>
    obtain ⟨n1, n2⟩ := hd_HO hH e
    show wp (FC b0) σ (if nI n < 0 then _ else _) _
    rw [if_neg (neg_nI (by omega))]
    have ey : ∀ s, bkY x y A s = if y < 0 ∨ (1063 : Int32) < y then (-9, A) else (((if hasA A n y.toNatClampNeg = 0 then 0 else 34 + A 35 6 + (hasA A n y.toNatClampNeg - 1) : Nat) : Int), A) := fun s => by
      unfold bkY
      rw [e]
    by_cases c0 : y < 0
    · rw [if_pos c0]
      refine wp_ret ((FC_good b0).1 _) (fun s => ?_)
      rw [ey s, if_pos (Or.inl c0)]
      exact id (-9)
    rw [if_neg c0]
    obtain ⟨m, hm, rfl⟩ := nI_of c0
    by_cases c : m < 1064
    · have nb : ¬ (nI m < 0 ∨ (1063 : Int32) < nI m) := fun r => by
        rcases r with r | r
        · exact c0 r
        · have := (nI_ltP (a := 1063) (b := m) (by omega) hm).mp r
          omega
      obtain ⟨b1, b2⟩ := blk_eq S n1 (by omega) c
      rw [if_pos (show nI m < (1064 : Int32) from (nI_ltP (a := m) (b := 1064) hm (by omega)).mpr c), ckC_0 L, osm_p (rfC_0_2 L), ckC_18 L, pointer_c h.ca n1 c, cll_some, cellOf_c, cll_some]
      show wp (FC b0) σ (if nI (ptC C n m % 2048) = nI 0 then _ else _) _
      rw [if_e (by omega) (by omega)]
      by_cases cz : hasA A n m = 0
      · rw [if_pos (b1.mpr cz)]
        refine wp_ret ((FC_good b0).1 _) (fun s => ?_)
        rw [ey s, if_neg nb, nI_cl hm, if_pos cz]
        exact id ((0 : Nat) : Int)
      · rw [if_neg (fun r => cz (b1.mp r)), ckC_0 L, osm_p (rfC_0_1 L), ckC_10 L, numberOf_c h.ca (by omega), cll_some, b2 cz]
        refine wp_ret ((FC_good b0).1 _) (fun s => ?_)
        rw [ey s, if_neg nb, nI_cl hm, if_neg cz, ← iz_n]
        exact id _
    · have nb : nI m < 0 ∨ (1063 : Int32) < nI m := Or.inr ((nI_ltP (a := 1063) (b := m) (by omega) hm).mpr (by omega))
      rw [if_neg (show ¬ nI m < (1064 : Int32) from fun r => c ((nI_ltP (a := m) (b := 1064) hm (by omega)).mp r))]
      refine wp_ret ((FC_good b0).1 _) (fun s => ?_)
      rw [ey s, if_pos nb]
      exact id (-9)
theorem textAt_c {x : Int32} (hu : 10000 ≤ fu) (h : CM b0 σ C D) (hR : ST (PH t) bi sp w C D A J) (hP : patOk A) : wp (FC b0) σ (m_X10_textAt b0 fu (b0 + 0) x σ) (fun v τ => ∀ s, QZ (PH t) b0 D J v τ (pubU A s (txY x))) := by
  have hΦ := PH_good t
  have hok : ∀ w A, PH t w A → okT A := PH_ok
  have hP := patOk_0 (v := 0) hP
  refine pubR_c hΦ hok h hR (fun q h0 => ?_)
  generalize up2 A 35 0 0 = A at *
  have L := h.lay
  have S := q.2.1
  have P := q.2.2.1
  unfold J_X10_textAt_57 J_X10_textAt_70
  rw [ckC_0 L, osm_p (rfC_0_5 L), osm_p (rfC_0_7 L), ckC_24 L]
  refine wp_bind (FC_good b0) (walkWhole_c (fu := fu) (w := 0) (by omega) h S.rk.1 (VW_of S P.di) q.1.2.2.2.2.2.2.2.2.2 hP false hu) ?_
  rintro v ρ ⟨e1, C2, q1, q2⟩
  have e1 : v = iz (wtA A 0 false) := e1
  obtain ⟨a1, a2⟩ := wt_bd (w := 0) (fo := false) P.1
  have ge := iz_ge a1 a2
  have id : ∀ (v : Int) s, QZ (PH t) b0 D J (.inl (iz v)) ρ (v, up2 A 35 51 s) := fun v s => RO_q hΦ hok q1 q h0 q2 sC_51 (by rw [up2_j (by decide)]; exact h0)
  subst e1
  by_cases c : wtA A 0 false < 0
  · rw [if_neg (fun q => by have := ge.mp q; omega)]
    refine wp_ret ((FC_good b0).1 _) (fun s => ?_)
    have e : txY x A s = (wtA A 0 false, up2 A 35 51 s) := by
      unfold txY
      rw [if_pos c]
    rw [e]
    exact id _ s
  · rw [if_pos (ge.mpr (by omega))]
    obtain ⟨y, hy⟩ : ∃ y : Nat, wtA A 0 false = (y : Int) := ⟨(wtA A 0 false).toNat, by omega⟩
    obtain ⟨y1, y2, -⟩ := wt_us P hy
    have L2 := q1.lay
    have S2 : SR bi w C2 A := SR_c S (fun p hp => q2 p (by omega) (by omega))
    have kb := (nd_k S.ok y1).1
    obtain ⟨k0, k1⟩ := hd_c S2.ok S2.mr y1
    have k3 := (k1 y2).2.2
    have ey : ∀ s, txY x A s = if nd A y 0 ≠ 3 then (-9, up2 A 35 51 s) else if x < 0 ∨ nd A y 4 ≤ x.toNatClampNeg then (-1, up2 A 35 51 s) else (((nd A y (5 + x.toNatClampNeg) : Nat) : Int), up2 A 35 51 s) := fun s => by
      unfold txY
      rw [if_neg c, hy, Int.toNat_natCast]
    rw [hy, iz_n, ckC_0 L2, osm_p (rfC_0_2 L2), ckC_18 L2, kind_c q1.ca y1, cll_some, k0]
    show wp (FC b0) ρ (if nI (nd A y 0) = nI 3 then _ else _) _
    rw [if_e (by omega) (by omega)]
    by_cases c3 : nd A y 0 = 3
    · rw [if_pos c3]
      rw [if_pos c3] at k3
      obtain ⟨v1, v2, v3, v4⟩ := (VW_of S2 P.di).lnk y y1 c3
      by_cases c0 : x < 0
      · rw [if_pos c0]
        refine wp_ret ((FC_good b0).1 _) (fun s => ?_)
        rw [ey s, if_neg (fun r => r c3), if_pos (Or.inl c0)]
        exact id (-1) s
      rw [if_neg c0]
      obtain ⟨m, hm, rfl⟩ := nI_of c0
      rw [ckC_0 L2, osm_p (rfC_0_2 L2), ckC_18 L2, size_c q1.ca y1, cll_some, k3, if_t hm (by omega)]
      by_cases cm : m < nd A y 4
      · rw [if_pos cm, ckC_0 L2, osm_p (rfC_0_2 L2), ckC_18 L2, textOctet_c q1.ca S2.rk.1 y1 (by omega), cll_some, (v4 m cm).1]
        refine wp_ret ((FC_good b0).1 _) (fun s => ?_)
        rw [ey s, if_neg (fun r => r c3), nI_cl hm, if_neg (fun r => by rcases r with r | r; exact c0 r; omega), ← iz_n]
        exact id _ s
      · rw [if_neg cm]
        refine wp_ret ((FC_good b0).1 _) (fun s => ?_)
        rw [ey s, if_neg (fun r => r c3), nI_cl hm, if_pos (Or.inr (by omega))]
        exact id (-1) s
    · rw [if_neg c3]
      refine wp_ret ((FC_good b0).1 _) (fun s => ?_)
      rw [ey s, if_pos c3]
      exact id (-9) s
end RDN
