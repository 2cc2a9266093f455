/-! ===== PURE: the reference walks ahead of a path's last name ===== -/
/-- a whole array anew -/
def upR (A : Nat → Nat → Nat) (o : Nat) (X : Nat → Nat) : Nat → Nat → Nat := fun p q => if p = o then X q else A p q
section RW5
variable {b0 fu : Nat} {σ τ : tM} {A : Nat → Nat → Nat} {N : Nat} {J : tJ}
theorem upR_o {o p q : Nat} {X : Nat → Nat} (h : p ≠ o) : upR A o X p q = A p q := by simp [upR, h]
theorem RM_row {o : Nat} {F : Nat → Int32} {X : Nat → Nat} (h : RM b0 J σ A N) (ho : isA o 0 = true) (h6 : o ≠ 36 ∧ o ≠ 35) (hF : ∀ j, F j = decA o j (X j)) (hX : ∀ j, X j < bndA o) : RM b0 J (sIr σ (b0 + o) F) (upR A o X) N := by
  obtain ⟨hr, hT, ad, ln, U, un, hd, hl, hb, hu, hm⟩ := h
  obtain ⟨h6, h35⟩ := h6
  refine ⟨⟨hr.1, fun p q e => ?_, fun p q => ?_⟩, ?_, ad, ln, U, un, ?_, hl, hb, ?_, ?_⟩
  · rw [rd_Ir]
    by_cases hp : p = o
    · subst hp
      rw [if_pos rfl, hF]
      simp [upR]
    · rw [if_neg (by omega), upR_o hp]
      exact hr.2.1 p q e
  · unfold upR
    split
    · rename_i e; rw [e]; exact Nat.lt_of_lt_of_le (hX q) (bndB_le _ _)
    · exact hr.2.2 p q
  · intro j
    rw [upR_o (fun e => h6 e.symm)]
    exact hT j
  · obtain ⟨d1, d2, d3, d4⟩ := id hd
    refine ⟨fun f hf => ?_, d2, ?_, d4⟩
    · obtain ⟨a1, a2, a3, a4, a5, a6, a7, a8⟩ := d1 f hf
      exact ⟨a1, a2, a3, a4, a5, a6, a7, fun i hi => by rw [rd_Ir, if_neg (hd.ne hf (Or.inl ho))]; exact a8 i hi⟩
    · rw [rd_Ir, if_neg (by omega)]
      exact d3
  · have : usd (upR A o X) = usd A := cn_congr _ _ fun i _ _ => by rw [upR_o (fun e => h6 e.symm)]
    rw [this]; exact hu
  · have : upR A o X 36 = A 36 := by funext q; exact upR_o (fun e => h6 e.symm)
    rw [this]; exact hm
theorem nIm {x : Nat} (h : 0 < x) : nI x + Int32.ofInt (-1) = nI (x - 1) := by
  obtain ⟨y, rfl⟩ : ∃ q, x = q + 1 := ⟨x - 1, by omega⟩
  exact nI_pred1
theorem wa14 {w : Nat} (h : RA b0 σ A) (hw : w < 2) : ∀ e f, e ≤ 120 → e < f → (∀ i, i < e → A (62 + w) i < 128) → L_X12_walkAhead_14 b0 fu f (b0 + 35) (nI w) (b0 + (62 + w)) (nI e) σ = J_X12_walkAhead_34 b0 fu (b0 + 35) (nI w) (b0 + (62 + w)) (nI (laE (A (62 + w)) e)) σ := by
  have L := h.lay
  have h74 := L.1
  have hp : tk σ (b0 + (62 + w)) = .inr (1, 120) ∧ ∀ j, tI σ (b0 + (62 + w)) j = sb (A (62 + w) j) := by
    have : w = 0 ∨ w = 1 := by omega
    rcases this with rfl | rfl
    · exact ⟨rkR62 L, rd_62 h⟩
    · exact ⟨rkR63 L, rd_63 h⟩
  intro e
  induction e with
  | zero =>
    intro f he hf hb
    obtain ⟨f, rfl⟩ : ∃ q, f = q + 1 := ⟨f - 1, by omega⟩
    unfold L_X12_walkAhead_14
    rw [ltb_def, if_pos (show nI 0 ≤ 0 by decide)]
    rfl
  | succ e ih =>
    intro f he hf hb
    obtain ⟨f, rfl⟩ : ∃ q, f = q + 1 := ⟨f - 1, by omega⟩
    have hbe := hb e (by omega)
    unfold L_X12_walkAhead_14
    rw [ltb_def, if_neg (show ¬ nI (e + 1) ≤ 0 from nI_nle (by omega) (by omega)), ckR_p hp.1 ⟨by omega, by omega⟩, show nI (e + 1) - 1 = nI e from nI_sb (a := e + 1) (b := 1) (by omega), ckI_n (by omega) (by omega), nI_cl (by omega), hp.2, sb_nI hbe]
    show (if nI (A (62 + w) e) = nI 47 then _ else _) = _
    rw [if_e (by omega) (by omega), ltb_def, nIm (by omega), show e + 1 - 1 = e by omega, ih f (by omega) (by omega) (fun i hi => hb i (by omega))]
    rw [show laE (A (62 + w)) (e + 1) = if A (62 + w) e = 47 then laE (A (62 + w)) e else e + 1 from rfl]
    by_cases q : A (62 + w) e = 47
    · rw [if_pos q, if_pos q]
    · rw [if_neg q, if_neg q]
theorem wa37 {w en : Nat} (h : RA b0 σ A) (hw : w < 2) : ∀ e f, e ≤ 120 → e < f → (∀ i, i < e → A (62 + w) i < 128) → L_X12_walkAhead_37 b0 fu f (b0 + 35) (nI w) (b0 + (62 + w)) (nI en) (nI e) σ = J_X12_walkAhead_59 b0 fu (b0 + 35) (nI w) (b0 + (62 + w)) (nI en) (nI (laF (A (62 + w)) e)) σ := by
  have L := h.lay
  have h74 := L.1
  have hp : tk σ (b0 + (62 + w)) = .inr (1, 120) ∧ ∀ j, tI σ (b0 + (62 + w)) j = sb (A (62 + w) j) := by
    have : w = 0 ∨ w = 1 := by omega
    rcases this with rfl | rfl
    · exact ⟨rkR62 L, rd_62 h⟩
    · exact ⟨rkR63 L, rd_63 h⟩
  intro e
  induction e with
  | zero =>
    intro f he hf hb
    obtain ⟨f, rfl⟩ : ∃ q, f = q + 1 := ⟨f - 1, by omega⟩
    unfold L_X12_walkAhead_37
    rw [ltb_def, if_pos (show nI 0 ≤ 0 by decide)]
    rfl
  | succ e ih =>
    intro f he hf hb
    obtain ⟨f, rfl⟩ : ∃ q, f = q + 1 := ⟨f - 1, by omega⟩
    have hbe := hb e (by omega)
    unfold L_X12_walkAhead_37
    rw [ltb_def, if_neg (show ¬ nI (e + 1) ≤ 0 from nI_nle (by omega) (by omega)), ckR_p hp.1 ⟨by omega, by omega⟩, show nI (e + 1) - 1 = nI e from nI_sb (a := e + 1) (b := 1) (by omega), ckI_n (by omega) (by omega), nI_cl (by omega), hp.2, sb_nI hbe]
    show (if nI (A (62 + w) e) = nI 47 then _ else _) = _
    rw [if_e (by omega) (by omega), ltb_def, nIm (by omega), show e + 1 - 1 = e by omega, ih f (by omega) (by omega) (fun i hi => hb i (by omega))]
    rw [show laF (A (62 + w)) (e + 1) = if A (62 + w) e = 47 then e + 1 else laF (A (62 + w)) e from rfl]
    by_cases q : A (62 + w) e = 47
    · rw [if_pos q, if_pos q]
    · rw [if_neg q, if_neg q]
theorem cp67_o {w fr n o j : Nat} (h : o ≠ 67) : cp67 A w fr n o j = up2 A 35 53 n o j := if_neg (fun q => h q.1)
set_option maxHeartbeats 4000000 in
theorem walkAhead_wp {w : Nat} (h : RM b0 J σ A N) (hw : w < 2) (hP : patOk A) (hD : dirsOk A) (hu : 10000 ≤ fu) : wp (FR b0) σ (m_X12_walkAhead b0 fu (b0 + 35) (nI w) σ) (fun v τ => v = iz (waA A w) ∧ ∃ s', RM b0 J τ (up2 (cp67 A w (lsF A w) (lsN A w)) 35 51 s') N) := by
  have L := h.ra.lay
  have h74 := L.1
  obtain ⟨p1, p2⟩ := hP w hw
  have hp : tA σ (b0 + 61) w = some (b0 + (62 + w)) ∧ tk σ (b0 + (62 + w)) = .inr (1, 120) ∧ ∀ j, tI σ (b0 + (62 + w)) j = sb (A (62 + w) j) := by
    have : w = 0 ∨ w = 1 := by omega
    rcases this with rfl | rfl
    · exact ⟨rfR_61_0 L, rkR62 L, rd_62 h.ra⟩
    · exact ⟨rfR_61_1 L, rkR63 L, rd_63 h.ra⟩
  have le1 := laE_le (A (62 + w)) (A 64 w)
  have lf1 := laF_le (A (62 + w)) (laE (A (62 + w)) (A 64 w))
  have b128 : ∀ i, i < A 64 w → A (62 + w) i < 128 := fun i hi => by have := (p2 i hi).2; omega
  refine wp_grw (FR_good b0) ?_
  rw [ckR_35 L, osm_p (rfR_35_47 L), ckR_61 L, ckI_n hw (by omega), nI_cl (by omega), osm_p hp.1, osm_p (rfR_35_48 L), ckR_64 L, ckI_n hw (by omega), rd_64 h.ra, ltb_def]
  rw [wa14 h.ra hw (A 64 w) fu p1 (by omega) b128]
  unfold J_X12_walkAhead_34
  rw [wa37 h.ra hw (laE (A (62 + w)) (A 64 w)) fu (by omega) (by omega) (fun i hi => b128 i (by omega))]
  have efr : laF (A (62 + w)) (laE (A (62 + w)) (A 64 w)) = lsF A w := rfl
  have els : laE (A (62 + w)) (A 64 w) - lsF A w = lsN A w := rfl
  rw [efr] at lf1 ⊢
  have ln1 : lsF A w + lsN A w ≤ A 64 w := by omega
  unfold J_X12_walkAhead_59
  rw [ckR_35 L, nI_sb (by omega), els]
  simp only [rd_AI, rd_AL, rd_AIr, rd_ALr, rd_IL, rd_LI, rd_IA, rd_LA, rd_LIr, rd_ILr, ckR_sI, ckO_sI, ckR_sL, ckO_sL, ckR_sA, ckO_sA, ckR_sIr, ckO_sIr, ckR_sLr, ckO_sLr, ltb_def]
  rw [osm_p (rfR_35_52 L), ckR_p hp.2.1 ⟨by omega, by omega⟩, ckR_67 L, rd_IIs]
  have t53 : ∀ x, x ≠ b0 + 35 → tI (sI σ (b0 + 35) 53 (nI (lsN A w))) x = tI σ x := fun x hx => rd_I1 _ _ _ _ hx
  rw [t53 (b0 + (62 + w)) (by omega), t53 (b0 + 67) (by omega)]
  have ckc : ∀ (k : Option (Int32 × tM)), ckC (nI (lsF A w)) 0 (nI (lsN A w)) 120 120 k = k := fun k => by
    unfold ckC
    rw [nI_cl (by omega), nI_cl (by omega), show (0 : Int32).toNatClampNeg = 0 from rfl, if_pos ⟨⟨nI_pos (by omega), by decide, nI_pos (by omega)⟩, by omega, by omega⟩]
  have ckf : ∀ (k : Option (Int32 × tM)), ckF (tI σ (b0 + (62 + w))) (nI (lsF A w)) (nI (lsN A w)) k = k := fun k => by
    unfold ckF
    rw [nI_cl (by omega), nI_cl (by omega), if_pos]
    intro j hj
    have := b128 (lsF A w + j) (by omega)
    rw [hp.2.2, sb_nI this, byt this]
  rw [ckc, ckf, nI_cl (by omega), nI_cl (by omega), show (0 : Int32).toNatClampNeg = 0 from rfl]
  have h1 : RM b0 J (sI σ (b0 + 35) 53 (nI (lsN A w))) (up2 A 35 53 (lsN A w)) N := RM_fix h rfl (by decide) rfl (by show _ < 2147483648; omega)
  have h2 : RM b0 J (sIr (sI σ (b0 + 35) 53 (nI (lsN A w))) (b0 + 67) (va_cpy (tI σ (b0 + (62 + w))) (tI σ (b0 + 67)) (lsF A w) 0 (lsN A w))) (cp67 A w (lsF A w) (lsN A w)) N := by
    have := RM_row (o := 67) (F := va_cpy (tI σ (b0 + (62 + w))) (tI σ (b0 + 67)) (lsF A w) 0 (lsN A w)) (X := fun j => if j < lsN A w then A (62 + w) (lsF A w + j) else A 67 j) h1 rfl (by decide) (fun j => ?_) (fun j => ?_)
    · have e : upR (up2 A 35 53 (lsN A w)) 67 (fun j => if j < lsN A w then A (62 + w) (lsF A w + j) else A 67 j) = cp67 A w (lsF A w) (lsN A w) := by
        funext o j
        unfold upR cp67
        by_cases q : o = 67
        · subst q
          by_cases z : j < lsN A w
          · rw [if_pos rfl, if_pos ⟨rfl, z⟩]
            exact if_pos z
          · rw [if_pos rfl, if_neg (fun y => z y.2)]
            exact if_neg z
        · rw [if_neg q, if_neg (fun y => q y.1)]
      rw [← e]
      exact this
    · by_cases z : j < lsN A w
      · rw [pk_cpy_in (Nat.zero_le _) (by omega), hp.2.2, if_pos z, Nat.sub_zero]; rfl
      · rw [pk_cpy_out (Or.inr (by omega)), rd_67 h.ra, if_neg z]; rfl
    · show _ < 256
      by_cases z : j < lsN A w
      · rw [if_pos z]; have := b128 (lsF A w + j) (by omega); omega
      · rw [if_neg z]; exact bd_67 h.ra j
  generalize hC : cp67 A w (lsF A w) (lsN A w) = C at h2
  have cA : ∀ o j, o ≠ 67 → o ≠ 35 → C o j = A o j := fun o j q1 q2 => by rw [← hC, cp67_o q1, up2_o q2]
  have c36 : C 36 = A 36 := by funext j; exact cA 36 j (by decide) (by decide)
  have c62 : C (62 + w) = A (62 + w) := by funext j; exact cA _ j (by omega) (by omega)
  have wkc : ∀ cs, wkA C true cs = wkA A true cs := fun cs => wk_36 c36 true 1000 0 0 cs
  have hDC : dirsOk C := by
    intro d hd he
    have e1 : nd C = nd A := by funext n x; unfold nd; rw [c36]
    have e2 : hasA C = hasA A := by funext n x; unfold hasA leafA pt; rw [e1, c36]
    have := hD d hd (by rw [← e1]; exact he)
    unfold dirOk at this ⊢
    rw [e1, e2]
    exact this
  have f1 : FR b0 σ (sIr (sI σ (b0 + 35) 53 (nI (lsN A w))) (b0 + 67) (va_cpy (tI σ (b0 + (62 + w))) (tI σ (b0 + 67)) (lsF A w) 0 (lsN A w))) := (FR_good b0).2.1 _ _ _ (FR_sI (refO_f 35 (by omega) (by omega))) (FR_sIr (refO_f 67 (by omega) (by omega)))
  refine wp_from (FR_good b0) f1 ?_
  refine wp_bind (FR_good b0) (begin_wp h2 hw (by omega) (fun i hi => by rw [c62]; exact b128 i (by omega))) fun _ ρ hq => ?_
  obtain ⟨h3, ht3⟩ := hq
  rw [ckR_35 h3.ra.lay]
  refine wp_bind (FR_good b0) (walk_wp h3 ht3 (by omega) hDC hu true) fun v ρ2 hq => ?_
  obtain ⟨rfl, s', h4⟩ := hq
  rw [wkc, c62]
  have L4 := h4.ra.lay
  have hbd := wk_bd h.ok true 1000 0 0 (cps [] (seg (A (62 + w)) 0 (lsF A w))) (by omega)
  have hbd' : -10 ≤ wkA A true (cps [] (seg (A (62 + w)) 0 (lsF A w))) ∧ wkA A true (cps [] (seg (A (62 + w)) 0 (lsF A w))) < 64 := hbd
  have ge := iz_ge hbd'.1 hbd'.2
  have g53 : tI ρ2 (b0 + 35) 53 = nI (lsN A w) := by
    rw [rf_53 h4.ra, ← hC]
    rfl
  have g67 : ∀ j, j < lsN A w → tI ρ2 (b0 + 67) j = nI (A (62 + w) (lsF A w + j)) := fun j hj => by
    rw [rd_67 h4.ra, ← hC]
    have e : up2 (cp67 A w (lsF A w) (lsN A w)) 35 51 s' 67 j = A (62 + w) (lsF A w + j) := by rw [up2_o (by decide)]; exact if_pos ⟨rfl, hj⟩
    rw [e, sb_nI (b128 _ (by omega))]
  unfold waA
  generalize hR : wkA A true (cps [] (seg (A (62 + w)) 0 (lsF A w))) = R at hbd' ge ⊢
  by_cases e0 : R < 0
  · rw [if_neg (fun q => by have := ge.mp q; omega), if_pos e0]
    exact wp_ret ((FR_good b0).1 _) ⟨rfl, s', h4⟩
  · rw [if_pos (ge.mpr (by omega)), if_neg e0]
    obtain ⟨r, hr⟩ : ∃ r : Nat, R = (r : Int) := ⟨R.toNat, by omega⟩
    subst hr
    have r64 : r < 64 := by omega
    rw [iz_n, Int.toNat_natCast]
    -- the end: dots, or not
    have k153 : wp (FR b0) ρ2 (J_X12_walkAhead_153 b0 fu (b0 + 35) (nI r) ρ2) (fun v τ => v = iz (-9) ∧ ∃ s', RM b0 J τ (up2 C 35 51 s') N) := by
      unfold J_X12_walkAhead_153 J_X12_walkAhead_158 J_X12_walkAhead_172
      rw [ckR_35 L4, if_neg (show ¬ (1 : Int32) = 0 by decide)]
      split
      · exact wp_ret ((FR_good b0).1 _) ⟨rfl, s', h4⟩
      · exact wp_ret ((FR_good b0).1 _) ⟨rfl, s', h4⟩
    have k157 : wp (FR b0) ρ2 (J_X12_walkAhead_157 b0 fu (b0 + 35) (nI r) ρ2) (fun v τ => v = iz (if lsN A w = 0 then -9 else if nd A r 0 = 2 then (r : Int) else -3) ∧ ∃ s', RM b0 J τ (up2 C 35 51 s') N) := by
      unfold J_X12_walkAhead_157 J_X12_walkAhead_158 J_X12_walkAhead_172 J_X12_walkAhead_193
      rw [ckR_35 L4, g53]
      show wp (FR b0) ρ2 (if nI (lsN A w) = nI 0 then _ else if (0 : Int32) = 0 then cll (m_X12_node b0 fu (b0 + 35) (nI r) (nI 0) ρ2) _ else _) _
      rw [if_e (by omega) (by omega)]
      by_cases z : lsN A w = 0
      · rw [if_pos z, if_pos z]
        exact wp_ret ((FR_good b0).1 _) ⟨rfl, s', h4⟩
      · rw [if_neg z, if_neg z, if_pos rfl, node_nd h4.ra r64 (by omega), cll_some]
        have e1 : nd (up2 C 35 51 s') r 0 = nd A r 0 := by unfold nd; rw [up2_o (by decide), c36]
        have b1 : nd A r 0 < 2147483648 := bd_36 h.ra _
        rw [e1]
        show wp (FR b0) ρ2 (if nI (nd A r 0) = nI 2 then _ else _) _
        rw [if_e b1 (by omega)]
        by_cases z2 : nd A r 0 = 2
        · rw [if_pos z2, if_pos z2]
          exact wp_ret ((FR_good b0).1 _) ⟨(iz_n r).symm, s', h4⟩
        · rw [if_neg z2, if_neg z2]
          exact wp_ret ((FR_good b0).1 _) ⟨rfl, s', h4⟩
    have dtrue : dts A w = true → (if dts A w = true then (-9 : Int) else if nd A r 0 = 2 then (r : Int) else -3) = -9 := fun q => if_pos q
    have d157 : ∀ (hne : ¬ ((lsN A w = 1 ∧ A (62 + w) (lsF A w) = 46) ∨ (lsN A w = 2 ∧ A (62 + w) (lsF A w) = 46 ∧ A (62 + w) (lsF A w + 1) = 46))), (if dts A w = true then (-9 : Int) else if nd A r 0 = 2 then (r : Int) else -3) = (if lsN A w = 0 then -9 else if nd A r 0 = 2 then (r : Int) else -3) := fun hne => by
      by_cases z : lsN A w = 0
      · rw [if_pos z, if_pos (by simp [dts, z])]
      · rw [if_neg z, if_neg]
        intro q
        have := of_decide_eq_true q
        rcases this with q | q
        · exact z q
        · exact hne q
    rw [ckR_35 L4, g53]
    show wp (FR b0) ρ2 (if nI (lsN A w) = nI 1 then _ else _) _
    rw [if_e (by omega) (by omega)]
    have k123 : ∀ (h1 : ¬ (lsN A w = 1 ∧ A (62 + w) (lsF A w) = 46)), wp (FR b0) ρ2 (J_X12_walkAhead_123 b0 fu (b0 + 35) (nI r) ρ2) (fun v τ => v = iz (if dts A w = true then (-9 : Int) else if nd A r 0 = 2 then (r : Int) else -3) ∧ ∃ s', RM b0 J τ (up2 C 35 51 s') N) := by
      intro h1
      unfold J_X12_walkAhead_123
      rw [ckR_35 L4, g53]
      show wp (FR b0) ρ2 (if nI (lsN A w) = nI 2 then _ else _) _
      rw [if_e (by omega) (by omega)]
      by_cases z : lsN A w = 2
      · have v0 := b128 (lsF A w + 0) (by omega)
        have v1 := b128 (lsF A w + 1) (by omega)
        rw [if_pos z, osm_p (rfR_35_52 L4), ckR_67 L4]
        show wp (FR b0) ρ2 (ckI (nI 0) 120 (if tI ρ2 (b0 + 67) 0 = nI 46 then osm (tA ρ2 (b0 + 35) 52) (fun a68 => ckR b0 ρ2 a68 1 (fun n72 => ckI (nI 1) n72 (if tI ρ2 a68 1 = nI 46 then _ else _))) else _)) _
        rw [ckI_n (by omega) (by omega), g67 0 (by omega), if_e (by omega) (by omega), osm_p (rfR_35_52 L4), ckR_67 L4, ckI_n (by omega) (by omega), g67 1 (by omega), if_e (by omega) (by omega), Nat.add_zero]
        by_cases q0 : A (62 + w) (lsF A w) = 46
        · rw [if_pos q0]
          by_cases q1 : A (62 + w) (lsF A w + 1) = 46
          · rw [if_pos q1, dtrue (by simp [dts, z, q0, q1])]
            exact k153
          · rw [if_neg q1, d157 (by omega)]
            exact k157
        · rw [if_neg q0, d157 (by omega)]
          exact k157
      · rw [if_neg z, d157 (by omega)]
        exact k157
    by_cases z : lsN A w = 1
    · have v0 := b128 (lsF A w + 0) (by omega)
      rw [if_pos z, osm_p (rfR_35_52 L4), ckR_67 L4]
      show wp (FR b0) ρ2 (ckI (nI 0) 120 (if tI ρ2 (b0 + 67) 0 = nI 46 then _ else _)) _
      rw [ckI_n (by omega) (by omega), g67 0 (by omega), if_e (by omega) (by omega), Nat.add_zero]
      by_cases q0 : A (62 + w) (lsF A w) = 46
      · rw [if_pos q0, dtrue (by simp [dts, z, q0])]
        exact k153
      · rw [if_neg q0]
        exact k123 (fun q => q0 q.2)
    · rw [if_neg z]
      exact k123 (fun q => z q.1)
end RW5
