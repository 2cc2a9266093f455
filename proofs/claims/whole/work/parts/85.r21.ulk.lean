/-! ===== PURE: unlink, in both ===== -/
section ULK
variable {Φ : tPh} {b0 fu : Nat} {σ τ : tM} {bi sp : Nat → Nat} {w : Nat → Nat × Nat} {C C' C3 X : tS} {D D' : tD} {A B E : tS} {J J' : tJ} {K n m k r t d l v un e o x N : Nat}
/-- a name less: its number -/
def nmC (C : tS) (x v : Nat) : tS := shC C x (kiC C x) v (prC C x) (szC C x)
/-- what is left of a node that has lost a name -/
def loC (C : tS) (x N : Nat) (op : Bool) : tS := if 0 < N ∨ op = true then nmC C x N else disC (nmC C x N) x
theorem op_cg (h : ∀ i, i < 16 → B 71 i = A 71 i) : opA B n = opA A n := by
  unfold opA
  rw [sr_cong (q := fun h => A 71 h == n + 1) 16 0 (fun i _ hi => by rw [h i (by omega)])]
theorem lo_fx (S : SR bi w (nmC C x N) E) (P : PH t w E) (hx : x < 64) (hk : nd E x 0 = 1 ∨ nd E x 0 = 3) (hN : nd E x 2 = N) : SR bi w (loC C x N (opA E x)) (mfA E x) ∧ PH t w (mfA E x) ∧ KR E (mfA E x) := by
  unfold loC mfA
  rw [hN]
  by_cases c : 0 < N ∨ opA E x = true
  · rw [if_pos c, if_pos c]
    exact ⟨S, P, KR_r⟩
  · rw [if_neg c, if_neg c]
    exact dn_free S P hx hk (by omega)
theorem KC_lo {op : Bool} : KC C (loC C x N op) := by
  unfold loC
  split
  · exact KC_sh
  · exact KC_t KC_sh KC_dis
theorem loseName_c (hu : 10000 ≤ fu) (h : CM b0 σ C D) (S0 : SR bi w C A) (S : SR bi w (nmC C x N) E) (hx : x < 64) (hk : nd A x 0 = 1 ∨ nd A x 0 = 3) (hN : nd A x 2 = N + 1) : wp (FC b0) σ (m_X10_loseName b0 fu (b0 + 0) (nI x) σ) (fun _ τ => CM b0 τ (loC C x N (opA E x)) D) := by
  have L := h.lay
  obtain ⟨k0, k1⟩ := hd_c S0.ok S0.mr hx
  have k2 := (k1 (by omega)).1
  have kb := nd_k S0.ok hx
  refine wp_grw (FC_good b0) ?_
  rw [ckC_0 L, osm_p (rfC_0_2 L), ckC_18 L, kind_c h.ca hx, cll_some, k0]
  show wp (FC b0) σ (if nI (nd A x 0) = nI 2 then _ else _) _
  rw [if_e (by omega) (by omega), if_neg (by omega), ckC_0 L, osm_p (rfC_0_2 L), ckC_18 L, names_c h.ca hx, cll_some, k2, hN, ltb_def, show nI (N + 1) - 1 = nI N from nI_sb (a := N + 1) (b := 1) (by omega), ckC_0 L, osm_p (rfC_0_2 L), ckC_18 L]
  have sl := sz_le S0 hx
  refine wp_bind (FC_good b0) (setNames_c (fu := fu) h S0.rk.1 hx (by omega) (by omega)) ?_
  intro _ ρ c1
  have c1 : CM b0 ρ (nmC C x N) D := c1
  have L1 := c1.lay
  unfold J_X10_loseName_61 loC
  show wp (FC b0) ρ (if nI 0 < nI N then _ else _) _
  rw [if_t (by omega) (by omega)]
  by_cases c : 0 < N
  · rw [if_pos c, if_pos (Or.inl c)]
    exact wp_ret ((FC_good b0).1 _) c1
  · rw [if_neg c, ckC_0 L1, isHeld_c S.zm.2.2.2.2.2.2.2.2.1 c1.ca hx (by omega), cll_some]
    cases eo : opA E x with
    | true =>
      rw [if_neg (show ¬ nI (b2n true) = (0 : Int32) by decide), if_pos (Or.inr rfl)]
      exact wp_ret ((FC_good b0).1 _) c1
    | false =>
      rw [if_pos (show nI (b2n false) = (0 : Int32) by decide), ckC_0 L1, osm_p (rfC_0_2 L1), ckC_18 L1, if_neg (fun y => by rcases y with y | y; exact c y; cases y)]
      refine wp_bind (FC_good b0) (discard_c (fu := fu) c1 S.rk hx (sz_le S hx) (by omega)) ?_
      intro _ ρ2 c2
      exact wp_ret ((FC_good b0).1 _) c2
theorem unlink_c (hu : 10000 ≤ fu) (h : CM b0 σ C D) (hR : ST (PH t) bi sp w C D A J) (hd : dsk A (K + 2104102)) (hg : A 35 18 = 1 → gsA A ≤ A 35 6 ∧ A 35 34 + 1 < 1000000 ∧ A 35 28 + 1 < 1000) (hun : un < 1000000000) (he : 8 + 36 * tcA A + rcA A ≤ e) (ho : 4 + 2 * tcA A ≤ o) (hP : patOk A) :
    wp (FC b0) σ (m_X10_unlink b0 fu (b0 + 0) σ) (fun v τ => ∀ s, AZQ (PH t) b0 D K e o v τ (pubX A J un s (fun A s => hdX A 0 s ulG))) := by
  refine pubA_c (PH_good t) PH_ok (fun _ _ h => h) (by omega) h hR hd hg hun he ho (fun B J' ρ sp' C' D' af c q dk => ?_)
  clear he ho hg
  have hPB : patOk B := by
    unfold patOk at hP ⊢
    intro v hv
    rw [af.1 64 (by decide) (by decide) (by decide), af.1 (62 + v) (by omega) (by omega) (by omega)]
    exact hP v hv
  have z := af.2.1.1
  have L := c.lay
  rw [ckC_0 L, osm_p (rfC_0_7 L)]
  refine wp_bind (FC_good b0) (entryOfLast_c (fu := fu) (v := 0) (by omega) hu c q.2.1 q.2.2.1 q.1.2.2.2.2.2.2.2.2.2 hPB) ?_
  rintro x ρ1 ⟨ex, C1, c1, el⟩
  have q1 := RO_el (by omega) q el
  have S := q1.2.1
  have P := q1.2.2.1
  have L1 := c1.lay
  have qs : ∀ s, RO (PH t) bi sp' w C1 D' (wa1 B 0 s) J' := fun s => RO_scr (PH_good t) PH_ok q1 sC_wa
  have zs : ∀ s, wa1 B 0 s 35 0 = 0 := fun s => wa_0 z
  have ds : ∀ s, dsk (wa1 B 0 s) K := fun s => dsk_scr dk sC_wa
  have id : ∀ (y : Int) s, QA (PH t) b0 D' J' K (.inl (iz y)) ρ1 (y, wa1 B 0 s) := fun y s => QA_id (Nat.le_refl _) (qs s) c1 (ds s) (zs s)
  obtain ⟨a1, a2, a3⟩ := wa_bd (w := 0) S.ok
  subst ex
  by_cases cw : waA B 0 < 0
  · have eA : elA B 0 = waA B 0 := if_pos cw
    rw [eA, if_neg (fun y => by have := (iz_ge a1 a2).mp y; omega)]
    refine wp_ret ((FC_good b0).1 _) (fun s => ?_)
    have eh : hdX B 0 s ulG = (waA B 0, wa1 B 0 s) := if_pos cw
    rw [eh]
    exact id _ s
  obtain ⟨d, hy⟩ : ∃ d : Nat, waA B 0 = (d : Int) := ⟨(waA B 0).toNat, by omega⟩
  have d1 : d < 64 := by omega
  have d2 := a3 (by omega)
  rw [hy, Int.toNat_natCast] at d2
  have le := ls_le B 0
  by_cases c8 : 28 < lsN B 0
  · have eA : elA B 0 = -7 := by
      unfold elA
      rw [if_neg cw, if_pos c8]
    rw [eA, if_neg (show ¬ (0 : Int32) ≤ iz (-7) by decide)]
    refine wp_ret ((FC_good b0).1 _) (fun s => ?_)
    have eh : hdX B 0 s ulG = (-7, wa1 B 0 s) := by
      unfold hdX
      rw [if_neg cw, if_pos c8]
    rw [eh]
    exact id (-7) s
  have kw : ∀ s, kf (wa1 B 0 s) d = fA B d (fun i => B (62 + 0) (lsF B 0 + i)) (lsN B 0) ∧ eAll (wa1 B 0 s) d = eAll B d := fun s => kf_wa
  have fb : fA B d (fun i => B (62 + 0) (lsF B 0 + i)) (lsN B 0) ≤ eAll B d := fA_le
  have fN := fun (y : ¬ eAll B d ≤ fA B d (fun i => B (62 + 0) (lsF B 0 + i)) (lsN B 0)) => eN_f (A := B) (d := d) (nm := fun i => B (62 + 0) (lsF B 0 + i)) (n := lsN B 0) S.ok y
  have eA : elA B 0 = if fA B d (fun i => B (62 + 0) (lsF B 0 + i)) (lsN B 0) = eAll B d then -1 else ((fA B d (fun i => B (62 + 0) (lsF B 0 + i)) (lsN B 0) : Nat) : Int) := by
    unfold elA
    rw [if_neg cw, if_neg c8, hy, Int.toNat_natCast]
  have eh : ∀ s, hdX B 0 s ulG = ulG (wa1 B 0 s) d := fun s => by
    unfold hdX
    rw [if_neg cw, if_neg c8, hy, Int.toNat_natCast]
  rw [eA]
  generalize fA B d (fun i => B (62 + 0) (lsF B 0 + i)) (lsN B 0) = F at *
  have nds : ∀ s a i, nd (wa1 B 0 s) a i = nd B a i := fun s a i => by
    unfold nd
    rw [wa1_36]
  have eNs : ∀ s a i, eN (wa1 B 0 s) a i = eN B a i := fun s a i => by
    unfold eN ex hasA leafA pt nd
    rw [wa1_36]
  by_cases cF : F = eAll B d
  · rw [if_pos cF, if_neg (show ¬ (0 : Int32) ≤ iz (-1) by decide)]
    refine wp_ret ((FC_good b0).1 _) (fun s => ?_)
    have e2 : ulG (wa1 B 0 s) d = (-1, wa1 B 0 s) := by
      unfold ulG
      rw [(kw s).1, (kw s).2, if_pos (by omega)]
    rw [eh s, e2]
    exact id (-1) s
  have Fl : F < eAll B d := by omega
  obtain ⟨l1, l2⟩ := eA_lt S.ok d1 Fl
  have n1 := fN (by omega)
  have Fb : F < 8512 := by
    have := (nd_k S.ok d1).2.1
    unfold eAll at Fl
    omega
  have i4 : tI ρ1 (b0 + 28) 4 = nI d := by
    have e4 : C1 28 4 = (waA B 0 + 16).toNat := el.2.2
    rw [cf_28_4 c1.ca, e4, iz_x a1, hy, iz_n]
  obtain ⟨v1, v2⟩ := (VW_of S P.di).ent d F d1 d2 Fl
  have v3 : ocC C1 (ptC C1 d (F / 8) % 2048) (F % 8 * 32 + 29) = eN B d F := (v2 (by omega)).2.1
  have k0 := (hd_c S.ok S.mr n1).1
  have kb := (nd_k S.ok n1).1
  rw [if_neg cF, iz_n, if_pos (show (0 : Int32) ≤ nI F from (nI_leP (a := 0) (b := F) (by omega) (by omega)).mpr (by omega)), ckC_0 L1, osm_p (rfC_0_2 L1), osm_p (rfC_0_7 L1), ckC_28 L1, ckC_18 L1, i4, nodeAt_c c1.ca S.rk.1 d1 l2, cll_some, v3, ckC_0 L1, osm_p (rfC_0_2 L1), ckC_18 L1, kind_c c1.ca n1, cll_some, k0]
  show wp (FC b0) ρ1 (if nI (nd B (eN B d F) 0) = nI 2 then _ else _) _
  rw [if_e (by omega) (by omega)]
  have e3 : ∀ s, ulG (wa1 B 0 s) d = if nd B (eN B d F) 0 = 2 then (-4, wa1 B 0 s) else (((nd (remA (wa1 B 0 s) d F) (eN B d F) 2 - 1 : Nat) : Int), loA (remA (wa1 B 0 s) d F) (eN B d F)) := fun s => by
    unfold ulG
    rw [(kw s).1, (kw s).2, if_neg (by omega), eNs, nds]
  by_cases c2 : nd B (eN B d F) 0 = 2
  · rw [if_pos c2]
    refine wp_ret ((FC_good b0).1 _) (fun s => ?_)
    rw [eh s, e3 s, if_pos c2]
    exact id (-4) s
  · have n0 := (P.di.2.1 d F d1 d2 Fl (by omega)).1
    have k13 : nd B (eN B d F) 0 = 1 ∨ nd B (eN B d F) 0 = 3 := by omega
    obtain ⟨r, hr⟩ : ∃ r, hasA B d (F / 8) = r + 1 := ⟨hasA B d (F / 8) - 1, by have := (P.di.1 d d1 d2).2.2 _ l1; omega⟩
    have clr := (SR_clr S d1 d2 l2 hr).1
    have fx := fun s => PH_unl (k := F) (x := eN B d F) (qs s).2.1 (qs s).2.2.1 d1 (by rw [nds]; exact d2) (by rw [(kw s).2]; exact Fl) (eNs s d F) (by omega) (by rw [nds]; exact k13)
    simp only [nds] at fx
    obtain ⟨-, k1⟩ := hd_c S.ok S.mr n1
    have k2 := (k1 (by omega)).1
    have Nb := (nd_k S.ok n1).2.2.1
    have N1 := (fx 0).2.2.2.1.2.2
    obtain ⟨N, hN⟩ : ∃ N, nd B (eN B d F) 2 = N + 1 := ⟨nd B (eN B d F) 2 - 1, by omega⟩
    rw [if_neg c2, ckC_0 L1, osm_p (rfC_0_2 L1), ckC_18 L1, names_c c1.ca n1, cll_some, k2, hN, ltb_def, show nI (N + 1) - 1 = nI N from nI_sb (a := N + 1) (b := 1) (by omega), ckC_0 L1, osm_p (rfC_0_2 L1), osm_p (rfC_0_7 L1), ckC_28 L1, ckC_18 L1, i4]
    rw [hN, Nat.add_sub_cancel] at fx
    refine wp_bind (FC_good b0) (removeEntry_c (fu := fu) c1 S.rk d1 l2 (sz_le clr d1) (by omega)) ?_
    intro _ ρ2 c3
    have L3 := c3.lay
    obtain ⟨f1, f2, f3, ⟨f4, f5, f6⟩, f7⟩ := fx 0
    rw [ckC_0 L3]
    refine wp_bind (FC_good b0) (loseName_c (fu := fu) hu c3 f7 (E := setN (remA (wa1 B 0 0) d F) (eN B d F) 2 N) f1 n1 (by rw [f5]; exact k13) f4) ?_
    intro _ ρ3 c4
    refine wp_ret ((FC_good b0).1 _) (fun s => ?_)
    obtain ⟨g1, g2, g3, ⟨g4, g5, g6⟩, g7⟩ := fx s
    have g1 : SR bi w (nmC (rmEn C1 d F) (eN B d F) N) (setN (remA (wa1 B 0 s) d F) (eN B d F) 2 N) := g1
    have f1 : SR bi w (nmC (rmEn C1 d F) (eN B d F) N) (setN (remA (wa1 B 0 0) d F) (eN B d F) 2 N) := f1
    have oc : opA (setN (remA (wa1 B 0 0) d F) (eN B d F) 2 N) (eN B d F) = opA (setN (remA (wa1 B 0 s) d F) (eN B d F) 2 N) (eN B d F) := op_cg (fun i hi => by
      rw [← f1.zm.2.2.2.2.2.2.2.2.1 i hi, ← g1.zm.2.2.2.2.2.2.2.2.1 i hi])
    rw [oc] at c4
    have el : loA (remA (wa1 B 0 s) d F) (eN B d F) = mfA (setN (remA (wa1 B 0 s) d F) (eN B d F) 2 N) (eN B d F) := by
      unfold loA
      rw [g4, Nat.add_sub_cancel]
    have r4 := (setN_r (A := remA (wa1 B 0 s) d F) (v := N) (x := 2) n1 (by omega) (by omega)).2.2.2.1
    obtain ⟨u1, u2, u3⟩ := lo_fx g1 g2 n1 (by rw [r4 _ 0 (by omega), if_neg (by omega), g5]; exact k13) (by rw [r4 _ 2 (by omega), if_pos ⟨rfl, rfl⟩])
    rw [eh s, e3 s, if_neg c2, g4, Nat.add_sub_cancel, el, ← iz_n]
    exact QA_mem (Nat.le_refl _) (qs s) c4 u1 u2 (fun _ _ => rfl) (KR_t g3 u3) (KC_t KC_rm KC_lo) (ds s) (zs s)
end ULK
