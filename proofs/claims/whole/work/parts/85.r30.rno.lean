/-! ===== PURE: rename, in both ===== -/
section RNO
variable {b0 fu : Nat} {σ τ ρ : tM} {bi sp : Nat → Nat} {w : Nat → Nat × Nat} {C C' X : tS} {D D' : tD} {A B E : tS} {J J' : tJ} {K n m k r t d l v un e o st x G : Nat}
theorem sC_t (h : sC A B) (g : sC B E) : sC A E := ⟨fun o ho => by rw [g.1 o ho, h.1 o ho], fun q a b c => by rw [g.2 q a b c, h.2 q a b c]⟩
theorem wa_cg (h36 : B 36 = A 36) (h : B (62 + v) = A (62 + v)) (h64 : B 64 = A 64) : waA B v = waA A v ∧ lsN B v = lsN A v ∧ lsF B v = lsF A v := by
  have e2 : lsF B v = lsF A v := by
    unfold lsF
    rw [h, h64]
  have e1 : lsN B v = lsN A v := by
    unfold lsN
    rw [h, h64]
  have e3 : dts B v = dts A v := by
    unfold dts
    rw [e1, e2, h]
  have e4 : ∀ fo cs, wkA B fo cs = wkA A fo cs := fun fo cs => wk_36 h36 fo _ _ _ _
  refine ⟨?_, e1, e2⟩
  unfold waA nd
  rw [e3, e2, h, e4, h36]
theorem rename_c (hu : 10000 ≤ fu) (h : CM b0 σ C D) (hR : ST (PH t) bi sp w C D A J) (hd : dsk A (K + 2104102)) (hg : A 35 18 = 1 → gsA A ≤ A 35 6 ∧ A 35 34 + 1 < 1000000 ∧ A 35 28 + 1 < 1000) (hun : un < 1000000000) (he : 8 + 36 * tcA A + rcA A ≤ e) (ho : 4 + 2 * tcA A ≤ o) (hP : patOk A) (ht : t < 1000) (h34 : A 35 34 + 4 < 1000000) :
    wp (FC b0) σ (m_X10_rename b0 fu (b0 + 0) σ) (fun v τ => ∀ s, AZQ (PH (t + 1)) b0 D K e o v τ (pubX A J un s (fun A s => hdX A 0 s rnG))) := by
  refine pubA_c (PH_good t) PH_ok (fun _ _ h => PH_mono h (Nat.le_succ _)) (by omega) h hR hd hg hun he ho (fun B J' ρ sp' C' D' af c q dk => ?_)
  clear he ho hg
  have hPB := AF_pat af hP
  have z := af.2.1.1
  have b34 : B 35 34 + 3 < 1000000 := by have := af.2.2.1.2; omega
  have L := c.lay
  rw [ckC_0 L, osm_p (rfC_0_7 L)]
  refine wp_bind (FC_good b0) (entryOfLast_c (fu := fu) (v := 0) (by omega) hu c q.2.1 q.2.2.1 q.1.2.2.2.2.2.2.2.2.2 hPB) ?_
  rintro x ρ1 ⟨ex, C1, c1, el⟩
  have q1 := RO_el (by omega) q el
  have S := q1.2.1
  have P := q1.2.2.1
  have L1 := c1.lay
  have qs : ∀ s, RO (PH t) bi sp' w C1 D' (wa1 B 0 s) J' := fun s => RO_scr (PH_good t) PH_ok q1 sC_wa
  have zs : ∀ s, wa1 B 0 s 35 0 = 0 := fun s => wa_0 z
  have ds : ∀ s, dsk (wa1 B 0 s) K := fun s => dsk_scr dk sC_wa
  have id : ∀ (y : Int) s, QA (PH (t + 1)) b0 D' J' K (.inl (iz y)) ρ1 (y, wa1 B 0 s) := fun y s => QA_id (Nat.le_succ _) (qs s) c1 (ds s) (zs s)
  obtain ⟨a1, a2, a3⟩ := wa_bd (w := 0) S.ok
  subst ex
  by_cases cw : waA B 0 < 0
  · have eA : elA B 0 = waA B 0 := if_pos cw
    rw [eA, if_neg (fun y => by have := (iz_ge a1 a2).mp y; omega)]
    refine wp_ret ((FC_good b0).1 _) (fun s => ?_)
    have eh : hdX B 0 s rnG = (waA B 0, wa1 B 0 s) := if_pos cw
    rw [eh]
    exact id _ s
  obtain ⟨d, hy⟩ : ∃ d : Nat, waA B 0 = (d : Int) := ⟨(waA B 0).toNat, by omega⟩
  have d1 : d < 64 := by omega
  have d2 := a3 (by omega)
  rw [hy, Int.toNat_natCast] at d2
  by_cases c8 : 28 < lsN B 0
  · have eA : elA B 0 = -7 := by
      unfold elA
      rw [if_neg cw, if_pos c8]
    rw [eA, if_neg (show ¬ (0 : Int32) ≤ iz (-7) by decide)]
    refine wp_ret ((FC_good b0).1 _) (fun s => ?_)
    have eh : hdX B 0 s rnG = (-7, wa1 B 0 s) := by
      unfold hdX
      rw [if_neg cw, if_pos c8]
    rw [eh]
    exact id (-7) s
  have kw : ∀ s, kf (wa1 B 0 s) d = fA B d (fun i => B (62 + 0) (lsF B 0 + i)) (lsN B 0) ∧ eAll (wa1 B 0 s) d = eAll B d := fun s => kf_wa
  have fb : fA B d (fun i => B (62 + 0) (lsF B 0 + i)) (lsN B 0) ≤ eAll B d := fA_le
  have fN := fun (y : ¬ eAll B d ≤ fA B d (fun i => B (62 + 0) (lsF B 0 + i)) (lsN B 0)) => eN_f (A := B) (d := d) (nm := fun i => B (62 + 0) (lsF B 0 + i)) (n := lsN B 0) S.ok y
  have eA : elA B 0 = if fA B d (fun i => B (62 + 0) (lsF B 0 + i)) (lsN B 0) = eAll B d then -1 else ((fA B d (fun i => B (62 + 0) (lsF B 0 + i)) (lsN B 0) : Nat) : Int) := by
    unfold elA
    rw [if_neg cw, if_neg c8, hy, Int.toNat_natCast]
  have eh : ∀ s, hdX B 0 s rnG = rnG (wa1 B 0 s) d := fun s => by
    unfold hdX
    rw [if_neg cw, if_neg c8, hy, Int.toNat_natCast]
  rw [eA]
  generalize fA B d (fun i => B (62 + 0) (lsF B 0 + i)) (lsN B 0) = F at *
  have eNs : ∀ s a i, eN (wa1 B 0 s) a i = eN B a i := fun s a i => by
    unfold eN ex hasA leafA pt nd
    rw [wa1_36]
  by_cases cF : F = eAll B d
  · rw [if_pos cF, if_neg (show ¬ (0 : Int32) ≤ iz (-1) by decide)]
    refine wp_ret ((FC_good b0).1 _) (fun s => ?_)
    have e2 : rnG (wa1 B 0 s) d = (-1, wa1 B 0 s) := by
      unfold rnG
      rw [(kw s).1, (kw s).2, if_pos (by omega)]
    rw [eh s, e2]
    exact id (-1) s
  have Fl : F < eAll B d := by omega
  obtain ⟨l1, l2⟩ := eA_lt S.ok d1 Fl
  have n1 := fN (by omega)
  have Fb : F < 8512 := by
    have := (nd_k S.ok d1).2.1
    unfold eAll at Fl
    omega
  have eG : ∀ s, rnG (wa1 B 0 s) d = hdX (wa1 B 0 s) 1 s (rn2 d F (eN B d F)) := fun s => by
    unfold rnG
    rw [(kw s).1, (kw s).2, if_neg (by omega), eNs, wa1_51]
  rw [if_neg cF, iz_n, if_pos (iz_neg (by omega)), ckC_0 L1, osm_p (rfC_0_8 L1)]
  refine wp_bind (FC_good b0) (entryOfLast_c (fu := fu) (v := 1) (by omega) hu c1 S P q1.1.2.2.2.2.2.2.2.2.2 hPB) ?_
  rintro x ρ2 ⟨ex, C2, c2, el2⟩
  subst ex
  have q2 := RO_el (by omega) q1 el2
  have S2 := q2.2.1
  have L2 := c2.lay
  obtain ⟨m1, m2, m3⟩ := wa_bd (w := 1) S.ok
  -- the second walk begins where the first has left
  have wE : ∀ s, waA (wa1 B 0 s) 1 = waA B 1 ∧ lsN (wa1 B 0 s) 1 = lsN B 1 ∧ lsF (wa1 B 0 s) 1 = lsF B 1 := fun s => wa_cg (wa1_36 B) (wa1_o B (by decide) (by decide)) (wa1_o B (by decide) (by decide))
  have hE : ∀ s, sC B (wa1 (wa1 B 0 s) 1 s) := fun s => sC_t sC_wa sC_wa
  have zE : ∀ s, wa1 (wa1 B 0 s) 1 s 35 0 = 0 := fun s => wa_0 (wa_0 z)
  have hx : ∀ s, hdX (wa1 B 0 s) 1 s (rn2 d F (eN B d F)) = if waA B 1 < 0 then (waA B 1, wa1 (wa1 B 0 s) 1 s) else if 28 < lsN B 1 then (-7, wa1 (wa1 B 0 s) 1 s) else rn2 d F (eN B d F) (wa1 (wa1 B 0 s) 1 s) (waA B 1).toNat := fun s => by
    unfold hdX
    rw [(wE s).1, (wE s).2.1]
  have id2 : ∀ (y : Int) s, QA (PH (t + 1)) b0 D' J' K (.inl (iz y)) ρ2 (y, wa1 (wa1 B 0 s) 1 s) := fun y s => QA_id (Nat.le_succ _) (RO_scr (PH_good t) PH_ok q2 (hE s)) c2 (dsk_scr dk (hE s)) (zE s)
  have i4 : tI ρ2 (b0 + 30) 4 = iz (waA B 1) := by
    have e4 : C2 30 4 = (waA B 1 + 16).toNat := el2.2.2
    rw [cf_30_4 c2.ca, e4, iz_x m1]
  have i4' : tI ρ2 (b0 + 28) 4 = nI d := by
    have e4 : C1 28 4 = (waA B 0 + 16).toNat := el.2.2
    have e5 : C2 28 4 = C1 28 4 := by rw [el2.1 28 (by decide) (by decide) (by decide)]
    rw [cf_28_4 c2.ca, e5, e4, iz_x a1, hy, iz_n]
  unfold J_X10_rename_50
  by_cases cw1 : waA B 1 < 0
  · have eA1 : elA B 1 = waA B 1 := if_pos cw1
    have fin : wp (FC b0) ρ2 (some (Sum.inl (iz (waA B 1)), ρ2)) (fun v τ => ∀ s, QA (PH (t + 1)) b0 D' J' K v τ (hdX B 0 s rnG)) := by
      refine wp_ret ((FC_good b0).1 _) (fun s => ?_)
      rw [eh s, eG s, hx s, if_pos cw1]
      exact id2 _ s
    have ng : ¬ (0 : Int32) ≤ iz (waA B 1) := fun y => by have := (iz_ge m1 m2).mp y; omega
    rw [eA1, if_neg ng]
    by_cases cq : iz (waA B 1) = -1
    · rw [if_pos cq, ckC_0 L2, osm_p (rfC_0_8 L2), ckC_30 L2, i4, if_neg ng]
      exact fin
    · rw [if_neg cq]
      exact fin
  obtain ⟨e, hye⟩ : ∃ e : Nat, waA B 1 = (e : Int) := ⟨(waA B 1).toNat, by omega⟩
  have e1 : e < 64 := by omega
  have e2 := m3 (by omega)
  rw [hye, Int.toNat_natCast] at e2
  have lw1 := wa_ls (A := B) (v := 1) (by omega)
  by_cases c81 : 28 < lsN B 1
  · have eA1 : elA B 1 = -7 := by
      unfold elA
      rw [if_neg cw1, if_pos c81]
    rw [eA1, if_neg (show ¬ (0 : Int32) ≤ iz (-7) by decide), if_neg (show ¬ iz (-7) = (-1 : Int32) by decide)]
    refine wp_ret ((FC_good b0).1 _) (fun s => ?_)
    rw [eh s, eG s, hx s, if_neg cw1, if_pos c81]
    exact id2 (-7) s
  have hx3 : ∀ s, hdX B 0 s rnG = rn2 d F (eN B d F) (wa1 (wa1 B 0 s) 1 s) e := fun s => by
    rw [eh s, eG s, hx s, if_neg cw1, if_neg c81, hye, Int.toNat_natCast]
  have gb : fA B e (fun i => B 63 (lsF B 1 + i)) (lsN B 1) ≤ eAll B e := fA_le
  have eA1 : elA B 1 = if fA B e (fun i => B 63 (lsF B 1 + i)) (lsN B 1) = eAll B e then -1 else ((fA B e (fun i => B 63 (lsF B 1 + i)) (lsN B 1) : Nat) : Int) := by
    unfold elA
    rw [if_neg cw1, if_neg c81, hye, Int.toNat_natCast]
  have h53 : ∀ s, wa1 (wa1 B 0 s) 1 s 35 53 = lsN B 1 := fun s => by rw [wa1_53, (wE s).2.1]
  have h67 : ∀ s i, i < lsN B 1 → wa1 (wa1 B 0 s) 1 s 67 i = B 63 (lsF B 1 + i) := fun s i hi => by
    rw [wa1_67 _ (by rw [(wE s).2.1]; exact hi), (wE s).2.2]
    show wa1 B 0 s 63 (lsF B 1 + i) = _
    rw [wa1_o B (by decide) (by decide)]
  have gN := fun (y : ¬ eAll B e ≤ fA B e (fun i => B 63 (lsF B 1 + i)) (lsN B 1)) => eN_f (A := B) (d := e) (nm := fun i => B 63 (lsF B 1 + i)) (n := lsN B 1) S.ok y
  obtain ⟨G, hG⟩ : ∃ G, fA B e (fun i => B 63 (lsF B 1 + i)) (lsN B 1) = G := ⟨_, rfl⟩
  rw [hG] at eA1 gb gN
  have v3 : ∀ a b, a < 64 → nd B a 0 = 2 → b < eAll B a → eN B a b < 64 → ocC C2 (ptC C2 a (b / 8) % 2048) (b % 8 * 32 + 29) = eN B a b := fun a b p1 p2 p3 p4 => (((VW_of S2 P.di).ent a b p1 p2 p3).2 (by omega)).2.1
  have body : ∀ x2, (x2 = if G < eAll B e then nI G else -1) → wp (FC b0) ρ2 (J_X10_rename_52 b0 fu (b0 + 0) (nI F) x2 ρ2) (fun v τ => ∀ s, QA (PH (t + 1)) b0 D' J' K v τ (hdX B 0 s rnG)) := by
    intro x2 hx2
    have r98 := fun T hT => rn98_c (fu := fu) (x2 := x2) (T := T) (E := fun s => wa1 (wa1 B 0 s) 1 s) hu ht hE zE q2 c2 dk hPB b34 d1 d2 Fl rfl n1 e1 e2 lw1 (by omega) h67 h53 hG hT hx2
    simp only [hx3]
    unfold J_X10_rename_52
    rw [ckC_0 L2, osm_p (rfC_0_7 L2), ckC_28 L2, i4', ltb_def, osm_p (rfC_0_8 L2), ckC_30 L2, i4, hye, iz_n, ltb_def, osm_p (rfC_0_2 L2), ckC_18 L2, nodeAt_c c2.ca S2.rk.1 d1 l2, cll_some, v3 d F d1 d2 Fl n1]
    by_cases cG : G < eAll B e
    · have xk : x2 = nI G := by rw [hx2, if_pos cG]
      obtain ⟨y1, y2⟩ := eA_lt S.ok e1 cG
      have Gb : G < 8512 := by
        have := (nd_k S.ok e1).2.1
        unfold eAll at cG
        omega
      have g1 := gN (by omega)
      have := r98 (some (eN B e G)) (by rw [if_pos cG])
      rw [if_pos (by rw [xk]; exact iz_neg (by omega)), ckC_0 L2, osm_p (rfC_0_2 L2), ckC_18 L2]
      rw [xk] at this ⊢
      rw [nodeAt_c c2.ca S2.rk.1 e1 y2, cll_some, v3 e G e1 e2 cG g1]
      exact this
    · have xk : x2 = -1 := by rw [hx2, if_neg cG]
      have := r98 none (by rw [if_neg cG])
      rw [if_neg (by rw [xk]; decide)]
      exact this
  rw [eA1]
  by_cases cG : G = eAll B e
  · rw [if_pos cG, if_neg (show ¬ (0 : Int32) ≤ iz (-1) by decide), if_pos (show iz (-1) = (-1 : Int32) by decide), ckC_0 L2, osm_p (rfC_0_8 L2), ckC_30 L2, i4, if_pos ((iz_ge m1 m2).mpr (by omega))]
    exact body _ (by rw [if_neg (by omega)]; rfl)
  · have Gb : G < 8512 := by
      have := (nd_k S.ok e1).2.1
      have y : G < eAll B e := by omega
      unfold eAll at y
      omega
    rw [if_neg cG, iz_n, if_pos (iz_neg (by omega))]
    exact body _ (by rw [if_pos (by omega)])
end RNO
