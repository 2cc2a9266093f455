/-! ===== PURE: the class's Disk: giveBytes ===== -/
section GV
variable {b0 fu : Nat} {σ τ : tM} {A B : tS} {C C' : tS} {D D' D'' : tD} {bi sp : Nat → Nat} {K : Nat} {pl : Nat → Nat × Nat}
/-- a row that is nowhere comes to an empty place -/
theorem LB_put {o j a : Nat} (ho : isP o j) (h : LB b0 σ C D a) (hn : dP D o j = none) : CM b0 (sA σ (b0 + o) j (some a)) C (upP D o j (some a)) := by
  obtain ⟨h1, h2, h3, h4, pl, h5, h6⟩ := h
  have o33 : o < 33 := by rcases ho with q | q | q <;> omega
  obtain ⟨g1, ⟨g2, g3⟩, ⟨g4, g5, g6, g7⟩, g8⟩ := h5
  have e0 : ∀ x, x ≠ b0 + o → tA (sA σ (b0 + o) j (some a)) x = tA σ x := fun x hx => rd_A1 _ _ _ _ hx
  refine ⟨?_, fun x q => h2 x ((ref_sA o33 x).mp q), ?_, fun x => if x = a then (o, j) else pl x, fun p q hp => ⟨?_, fun x e => ?_⟩, ⟨?_, fun k hk => ?_⟩, ⟨g4, g5, ?_, ?_⟩, fun n q1 q2 => ?_⟩
  · refine CA_same h1 (layC_of h1.lay (Nat.le_refl _) (fun _ _ => rfl) ?_) (fun _ _ => rfl) rfl
    have e1 : ∀ p, p ≠ 3 → p ≠ 8 → p ≠ 21 → tA (sA σ (b0 + o) j (some a)) (b0 + p) = tA σ (b0 + p) := fun p q1 q2 q3 => e0 _ (by rcases ho with q | q | q <;> omega)
    simp only [e1 0 (by omega) (by omega) (by omega), e1 1 (by omega) (by omega) (by omega), e1 10 (by omega) (by omega) (by omega), e1 18 (by omega) (by omega) (by omega), e1 20 (by omega) (by omega) (by omega), e1 23 (by omega) (by omega) (by omega), e1 24 (by omega) (by omega) (by omega), e1 26 (by omega) (by omega) (by omega), e1 28 (by omega) (by omega) (by omega), e1 30 (by omega) (by omega) (by omega), and_self]
  · rw [psi_sA o33]
    exact h3
  · show _ = if p = o ∧ q = j then some a else dP D p q
    rw [rd_AA]
    by_cases c1 : p = o
    · subst c1
      rw [if_pos rfl]
      by_cases c2 : q = j
      · rw [if_pos c2, if_pos ⟨rfl, c2⟩]
      · rw [if_neg c2, if_neg (fun r => c2 r.2)]
        exact (g1 p q hp).1
    · rw [if_neg (by omega), if_neg (fun r => c1 r.1)]
      exact (g1 p q hp).1
  · have e : (if p = o ∧ q = j then some a else dP D p q) = some x := e
    show isRow b0 (sA σ (b0 + o) j (some a)) x (dW D x) ∧ (if x = a then (o, j) else pl x) = (p, q)
    by_cases c : p = o ∧ q = j
    · rw [if_pos c] at e
      have : a = x := by cases e; rfl
      subst this
      rw [if_pos rfl, c.1, c.2]
      exact ⟨row_sA o33 h4, rfl⟩
    · rw [if_neg c] at e
      obtain ⟨r1, r2⟩ := (g1 p q hp).2 x e
      have xa : x ≠ a := fun r => by
        subst r
        rw [h6] at r2
        have := congrArg Prod.fst r2
        simp at this
        rcases hp with w | w | w <;> omega
      rw [if_neg xa]
      exact ⟨row_sA o33 r1, r2⟩
  · rw [e0 _ (by rcases ho with q | q | q <;> omega)]
    exact g2
  · obtain ⟨a1, a2, a3⟩ := g3 k hk
    have xa : dS D k ≠ a := fun r => by
      rw [r, h6] at a2
      have := congrArg Prod.fst a2
      simp at this
    show isRow b0 (sA σ (b0 + o) j (some a)) (dS D k) (dW D (dS D k)) ∧ (if dS D k = a then (o, j) else pl (dS D k)) = (100, k) ∧ tA (sA σ (b0 + o) j (some a)) (dS D k) 1 = _
    rw [if_neg xa, e0 _ (by have := a1.2.2.2.1.1; omega)]
    exact ⟨row_sA o33 a1, a2, a3⟩
  · rw [e0 _ (by rcases ho with q | q | q <;> omega)]
    exact g6
  · rw [e0 _ (by rcases ho with q | q | q <;> omega)]
    exact g7
  · have t := g8 n q1 q2
    have k6 := t.2.2.2.2.2.1
    refine tx_sA (P := fun p q => if p = o ∧ q = j then some a else dP D p q) o33 t (fun k hk => ?_)
    have a4 := (k6 k hk).2.2.2
    have xa : dX D 1 n k ≠ a := fun r => by
      rw [r, h6] at a4
      have := congrArg Prod.fst a4
      simp at this
      omega
    show (if dX D 1 n k = a then (o, j) else pl (dX D 1 n k)) = _
    rw [if_neg xa]
theorem m4_init (h74 : 74 ≤ tn σ) : m_X4_init b0 fu (b0 + tn σ) (sN σ (b0 + tn σ) (.inl 4) 2) = some ((), nwR b0 σ) := by
  unfold m_X4_init
  have e1 : tn (sN σ (b0 + tn σ) (.inl 4) 2) = tn σ + 1 := rfl
  have k1 : tk (sN (sN σ (b0 + tn σ) (.inl 4) 2) (b0 + (tn σ + 1)) (.inr (3, 32)) 32) (b0 + tn σ) = .inl 4 := by
    rw [rd_kN, if_neg (by omega), rd_kN, if_pos rfl]
  rw [ltb_def, e1, show (32 : Int32).toNatClampNeg = 32 from rfl, ckO_p k1 ⟨by omega, by show b0 + tn σ < b0 + (tn σ + 1 + 1); omega⟩]
  exact grw_p rfl (by show tn σ + 1 ≤ tn σ + 1 + 1; omega) (by show tu σ + 2 ≤ tu σ + 2 + 32; omega)
/-- rows at different places are apart -/
theorem CM.apart (h : CM b0 σ C D) {o j o' j' a : Nat} (h1 : isP o j) (h2 : isP o' j') (e1 : dP D o j = some a) (e2 : dP D o' j' = some a) : o = o' ∧ j = j' := by
  obtain ⟨-, -, -, pl, g1, -⟩ := h
  have p1 := ((g1 o j h1).2 a e1).2
  have p2 := ((g1 o' j' h2).2 a e2).2
  rw [p1] at p2
  cases p2
  exact ⟨rfl, rfl⟩
theorem CM.tapart (h : CM b0 σ C D) {o j a n k : Nat} (h1 : isP o j) (e1 : dP D o j = some a) (n1 : dL D < n) (n2 : n ≤ dH D) (hk : k < dT D 8 n) : dX D 1 n k ≠ a := by
  obtain ⟨-, -, -, pl, g1, -, -, g8⟩ := h
  have p1 := ((g1 o j h1).2 a e1).2
  have p2 := ((g8 n n1 n2).2.2.2.2.2.1 k hk).2.2.2
  intro e
  rw [e, p1] at p2
  have := congrArg Prod.fst p2
  simp at this
  rcases h1 with w | w | w <;> omega
theorem JP_W {o j a : Nat} {w : Nat → Nat} (h : CM b0 σ C D) (h1 : isP o j) (ho : o ≠ 21) (e1 : dP D o j = some a) : JP D (upW D a w) := by
  refine ⟨⟨rfl, rfl, rfl, rfl, rfl, rfl, rfl⟩, fun c x hc e => ?_, fun n k n1 n2 hk => ?_⟩
  · refine if_neg (fun r => ?_)
    subst r
    exact ho (h.apart h1 (Or.inr (Or.inr ⟨rfl, hc⟩)) e1 e).1
  · exact if_neg (h.tapart h1 e1 n1 n2 hk)
theorem giv60 {s c : Nat} {x : Nat} (h : CM b0 σ C D) (hs : s < 256) (hc : c < 2034) {a : Nat} (ea : dP D 8 s = some a) : wp (FC b0) σ (J_X0_giveBytes_60 b0 fu (b0 + 1) (b0 + 11) (nI (c * 32)) (nI s) σ) (fun _ τ => CM b0 τ (up2 C 9 s 1) (upW D a (fun j => if j < 32 then C 11 (c * 32 + j) else dW D a j))) := by
  have L := h.lay
  have p8 := h.p (o := 8) (j := s) (Or.inr (Or.inl ⟨rfl, hs⟩))
  have r8 := h.row (o := 8) (j := s) (Or.inr (Or.inl ⟨rfl, hs⟩)) ea
  obtain ⟨q1, q2, q3, q4, q5, q6⟩ := id r8
  unfold J_X0_giveBytes_60
  rw [ckC_1 L, osm_p (rfC_1_6 L), ckC_8 L, ckI_n hs (by omega), nI_cl (by omega), p8, ea, omt_some, ckO_row r8, osm_p q3, ckC_11 L, ckR_p q2 ⟨by omega, q4.2.1⟩]
  have ckc : ∀ (k : Option (Unit × tM)), ckC (nI (c * 32)) 0 32 65536 32 k = k := fun k => by
    unfold ckC
    rw [nI_cl (by omega), show (0 : Int32).toNatClampNeg = 0 from rfl, show (32 : Int32).toNatClampNeg = 32 from rfl, if_pos ⟨⟨nI_pos (by omega), by decide, by decide⟩, by omega, by omega⟩]
  rw [ckc, nI_cl (by omega), show (0 : Int32).toNatClampNeg = 0 from rfl, show (32 : Int32).toNatClampNeg = 32 from rfl]
  have hF : ∀ j, va_cpy (tL σ (b0 + 11)) (tL σ (a + 1)) (c * 32) 0 32 j = lN ((if j < 32 then C 11 (c * 32 + j) else dW D a j)) ∧ (if j < 32 then C 11 (c * 32 + j) else dW D a j) < 18446744073709551616 := by
    intro j
    by_cases g : j < 32
    · rw [pk_cpy_in (by omega) (by omega), if_pos g, cd_11 h.ca, Nat.sub_zero]
      exact ⟨rfl, cb_11 h.ca _⟩
    · rw [pk_cpy_out (by omega), if_neg g]
      exact q6 j
  have k1 := CM_W (F := va_cpy (tL σ (b0 + 11)) (tL σ (a + 1)) (c * 32) 0 32) (w := fun j => if j < 32 then C 11 (c * 32 + j) else dW D a j) h r8 hF
  have L1 := k1.lay
  rw [osm_p (rfC_1_7 L1), ckC_9 L1, ckI_n hs (by omega)]
  exact wp_ret (FC_2 (FC_Lr r8) (FC_sI k1.rf (by omega))) (CM_fix (o := 9) (j := s) (x := 1) k1 rfl vb1 (by decide))
theorem giveBytes_c {s c : Nat} (h : CM b0 σ C D) (hR : DRx bi sp C D A s) (h0 : 0 < A 35 16) (h16 : A 35 16 ≤ 256) (h15 : A 35 15 < 256) (hs : s = (A 35 15 + A 35 16 - 1) % 256) (hc : c < 2034) (h3 : A 43 s = 3) (hb : ∀ j, j < 256 → by8 (C 11 (c * 32 + j / 8)) (j % 8) = A 45 (256 * s + j)) : wp (FC b0) σ (m_X0_giveBytes b0 fu (b0 + 1) (b0 + 11) (nI (c * 32)) σ) (fun _ τ => ∃ C' D', CM b0 τ C' D' ∧ DR bi sp C' D' A ∧ cO C C' ∧ JP D D' ∧ EP D D' 0 0) := by
  have L := h.lay
  have hs2 : s < 256 := by rw [hs]; exact Nat.mod_lt _ (by omega)
  have iP : isP 8 s := Or.inr (Or.inl ⟨rfl, hs2⟩)
  obtain ⟨⟨r1, r2, r3, r4, r5, r6, r7⟩, rs, rx, rk, rc, rch⟩ := hR
  have e1 : nI (A 35 15) + nI (A 35 16) - (1 : Int32) = nI (A 35 15 + A 35 16 - 1) := by rw [nI_add]; exact nI_sb (b := 1) (by omega)
  have e2 : nI (A 35 15 + A 35 16 - 1) - nI (A 35 15 + A 35 16 - 1) / (256 : Int32) * (256 : Int32) = nI s := by
    rw [hs]
    exact pk_rem (d := 256) (by omega) (by omega) (by omega)
  -- behind the writing
  have fin : ∀ (D1 : tD) (a : Nat), (∀ b, dP D1 3 b = dP D 3 b) → (∀ j, j ≠ s → dP D1 8 j = dP D 8 j) → (∀ x, (∃ o j, isP o j ∧ dP D o j = some x) → dW D1 x = dW D x) → dP D1 8 s = some a → (∀ j, j < 256 → j ≠ s → dP D 8 j ≠ some a) → (∀ b, b < 6130 → dP D 3 b ≠ some a) → DR bi sp (up2 C 9 s 1) (upW D1 a (fun j => if j < 32 then C 11 (c * 32 + j) else dW D1 a j)) A := by
    intro D1 a p3 p8 pw pa na nb
    have cx : ∀ p, p ≠ 9 → up2 C 9 s 1 p = C p := fun p hp => up2_rown hp
    refine ⟨by rw [cx 1 (by decide)]; exact ⟨r1, r2, r3, r4, r5, r6, r7⟩, fun i hi _ => ?_, fun q => by omega, fun b hb2 => ?_, fun b hb2 => by rw [cx 4 (by decide)]; exact rc b hb2, fun b hb2 => by rw [cx 5 (by decide)]; exact rch b hb2⟩
    · have m1 := Nat.mod_lt (A 35 15 + i) (show 0 < 256 by omega)
      by_cases e : (A 35 15 + i) % 256 = s
      · rw [e]
        obtain ⟨t1, t2, -⟩ := rx hs2
        refine ⟨by rw [cx 6 (by decide)]; exact t1, by rw [cx 7 (by decide)]; exact t2, by rw [up2_s, if_pos h3], fun _ => ⟨a, pa, fun j hj => ?_⟩⟩
        show by8 ((if a = a then (fun j => if j < 32 then C 11 (c * 32 + j) else dW D1 a j) else dW D1 a) (j / 8)) (j % 8) = _
        rw [if_pos rfl, if_pos (by omega)]
        exact hb j hj
      · obtain ⟨t1, t2, t3, t4⟩ := rs i hi e
        refine ⟨by rw [cx 6 (by decide)]; exact t1, by rw [cx 7 (by decide)]; exact t2, by rw [up2_j e]; exact t3, fun q => ?_⟩
        obtain ⟨y, y1, y2⟩ := t4 q
        refine ⟨y, (p8 _ e).trans y1, ?_⟩
        have ya : y ≠ a := fun r => na _ m1 e (r ▸ y1)
        have ew : dW (upW D1 a (fun j => if j < 32 then C 11 (c * 32 + j) else dW D1 a j)) y = dW D y := (if_neg ya).trans (pw y ⟨8, _, Or.inr (Or.inl ⟨rfl, m1⟩), y1⟩)
        rw [ew]
        exact y2
    · obtain ⟨k1, k2⟩ := rk b hb2
      refine ⟨by rw [cx 2 (by decide)]; exact k1, fun q => ?_⟩
      obtain ⟨k3, y, y1, y2⟩ := k2 q
      refine ⟨k3, y, (p3 b).trans y1, ?_⟩
      have ya : y ≠ a := fun r => nb b hb2 (r ▸ y1)
      have ew : dW (upW D1 a (fun j => if j < 32 then C 11 (c * 32 + j) else dW D1 a j)) y = dW D y := (if_neg ya).trans (pw y ⟨3, b, Or.inl ⟨rfl, hb2⟩, y1⟩)
      rw [ew]
      exact y2
  refine wp_grw (FC_good b0) ?_
  unfold J_X0_giveBytes_21
  rw [ckC_1 L, cf_1_10 h.ca, cf_1_9 h.ca, r2, r3]
  show wp (FC b0) σ (if nI (A 35 16) < nI 1 then _ else _) _
  rw [if_t (by omega) (by omega), if_neg (by omega), if_neg (nI_pos (by omega)), ckC_11 L, show nI 65536 - (32 : Int32) = nI 65504 from nI_sb (a := 65536) (b := 32) (by omega), if_l (by omega) (by omega), if_pos (by omega), ltb_def, e1, e2, osm_p (rfC_1_6 L), ckC_8 L, ckI_n hs2 (by omega), nI_cl (by omega), h.p iP]
  cases ea : dP D 8 s with
  | some a =>
    rw [omt_some]
    refine wp_mono (giv60 (fu := fu) (x := 0) h hs2 hc ea) ?_
    intro _ ρ _ q
    refine ⟨_, _, q, fin D a (fun _ => rfl) (fun _ _ => rfl) (fun _ _ => rfl) ea (fun j hj ne e => ne (h.apart (Or.inr (Or.inl ⟨rfl, hj⟩)) iP e ea).2) (fun b hb2 e => by have := (h.apart (Or.inl ⟨rfl, hb2⟩) iP e ea).1; omega), cO_up (by omega) (cO_r C), JP_W h iP (by decide) ea, ?_⟩
    have e3 : kpn (upW D a (fun j => if j < 32 then C 11 (c * 32 + j) else dW D a j)) = kpn D := rfl
    unfold EP
    rw [e3]
    exact ⟨(Nat.add_zero _).symm, (Nat.add_zero _).symm⟩
  | none =>
    have h74 := L.1
    have lb := LB_new h
    have k1 := LB_put iP lb ea
    have fc1 := FC_nwR h.rf h74
    rw [omt_none, osm_p (rfC_1_6 L), ltb_def, m4_init h74, cll_some]
    have L1 := lb.cm.lay
    rw [ckC_8 L1, ckI_n hs2 (by omega), ckO_row lb.row]
    have ea2 : dP (upP (upW (adE D 34 2) (b0 + tn σ) (fun _ => 0)) 8 s (some (b0 + tn σ))) 8 s = some (b0 + tn σ) := if_pos ⟨rfl, rfl⟩
    refine wp_from (FC_good b0) (FC_2 fc1 (FC_sA (o := 8) (j := s) (v := some (b0 + tn σ)) lb.cm.rf (by omega))) (wp_mono (giv60 (fu := fu) (x := 0) k1 hs2 hc ea2) ?_)
    intro _ ρ _ q
    have low : ∀ o j x, isP o j → dP D o j = some x → x ≠ b0 + tn σ := fun o j x hp e => by have := (h.row hp e).2.2.2.1.2.1; omega
    have pP : ∀ p j, ¬ (p = 8 ∧ j = s) → dP (upP (upW (adE D 34 2) (b0 + tn σ) (fun _ => 0)) 8 s (some (b0 + tn σ))) p j = dP D p j := fun p j hn => if_neg hn
    have hfin := fin (upP (upW (adE D 34 2) (b0 + tn σ) (fun _ => 0)) 8 s (some (b0 + tn σ))) (b0 + tn σ) (fun b => pP 3 b (by omega)) (fun j hj => pP 8 j (fun r => hj r.2)) (fun x ⟨o, j, hp, e⟩ => if_neg (low o j x hp e)) ea2 (fun j hj ne e => low 8 j _ (Or.inr (Or.inl ⟨rfl, hj⟩)) e rfl) (fun b hb2 e => low 3 b _ (Or.inl ⟨rfl, hb2⟩) e rfl)
    refine ⟨_, _, q, hfin, cO_up (by omega) (cO_r C), ?_, ?_⟩
    · refine ⟨⟨?_, rfl, rfl, rfl, rfl, rfl, rfl⟩, fun c2 x hc2 e => ?_, fun n k n1 n2 hk => ?_⟩
      · funext j
        exact pP 21 j (by omega)
      · have nx := low 21 c2 x (Or.inr (Or.inr ⟨rfl, hc2⟩)) e
        exact (if_neg nx).trans (if_neg nx)
      · have nx : dX D 1 n k ≠ b0 + tn σ := by
          obtain ⟨-, -, -, pl, -, -, -, g8⟩ := h
          have := ((g8 n n1 n2).2.2.2.2.2.1 k hk).2.2.1.2.2.2.1.2.1
          omega
        exact (if_neg nx).trans (if_neg nx)
    · have t1 : kpn (upW (upP (upW (adE D 34 2) (b0 + tn σ) (fun _ => 0)) 8 s (some (b0 + tn σ))) (b0 + tn σ) (fun j => if j < 32 then C 11 (c * 32 + j) else dW (upP (upW (adE D 34 2) (b0 + tn σ) (fun _ => 0)) 8 s (some (b0 + tn σ))) (b0 + tn σ) j)) = kpn D + 1 := by
        have u1 : cn (fun j => (dP (upP (upW (adE D 34 2) (b0 + tn σ) (fun _ => 0)) 8 s (some (b0 + tn σ))) 8 j).isSome) 0 256 = cn (fun j => (dP D 8 j).isSome) 0 256 + 1 := cn_on (x := s) (by rw [ea]; rfl) (by rw [ea2]; rfl) 256 0 (Nat.zero_le _) (by omega) (fun i _ _ hi => by rw [pP 8 i (fun r => hi r.2)])
        have u2 : cn (fun b => (dP (upP (upW (adE D 34 2) (b0 + tn σ) (fun _ => 0)) 8 s (some (b0 + tn σ))) 3 b).isSome) 0 6130 = cn (fun b => (dP D 3 b).isSome) 0 6130 := cn_congr _ _ (fun i _ _ => by rw [pP 3 i (by omega)])
        have u3 : kpn (upW (upP (upW (adE D 34 2) (b0 + tn σ) (fun _ => 0)) 8 s (some (b0 + tn σ))) (b0 + tn σ) (fun j => if j < 32 then C 11 (c * 32 + j) else dW (upP (upW (adE D 34 2) (b0 + tn σ) (fun _ => 0)) 8 s (some (b0 + tn σ))) (b0 + tn σ) j)) = cn (fun b => (dP (upP (upW (adE D 34 2) (b0 + tn σ) (fun _ => 0)) 8 s (some (b0 + tn σ))) 3 b).isSome) 0 6130 + cn (fun j => (dP (upP (upW (adE D 34 2) (b0 + tn σ) (fun _ => 0)) 8 s (some (b0 + tn σ))) 8 j).isSome) 0 256 := rfl
        rw [u3, u1, u2]
        unfold kpn
        omega
      have t2 : dE (upW (upP (upW (adE D 34 2) (b0 + tn σ) (fun _ => 0)) 8 s (some (b0 + tn σ))) (b0 + tn σ) (fun j => if j < 32 then C 11 (c * 32 + j) else dW (upP (upW (adE D 34 2) (b0 + tn σ) (fun _ => 0)) 8 s (some (b0 + tn σ))) (b0 + tn σ) j)) = dE D + 34 := rfl
      have t3 : dO (upW (upP (upW (adE D 34 2) (b0 + tn σ) (fun _ => 0)) 8 s (some (b0 + tn σ))) (b0 + tn σ) (fun j => if j < 32 then C 11 (c * 32 + j) else dW (upP (upW (adE D 34 2) (b0 + tn σ) (fun _ => 0)) 8 s (some (b0 + tn σ))) (b0 + tn σ) j)) = dO D + 2 := rfl
      unfold EP
      rw [t1, t2, t3]
      exact ⟨by omega, by omega⟩
end GV
