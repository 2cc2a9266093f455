/-! ===== PURE: rmdir, in both ===== -/
section RMD
variable {Φ : tPh} {b0 fu : Nat} {σ τ : tM} {bi sp : Nat → Nat} {w : Nat → Nat × Nat} {C C' X : tS} {D D' : tD} {A B : tS} {J J' : tJ} {K n m k r t d l v un e o : Nat}
theorem TP_el (hv : v < 2) (T : TP C A) (el : elC C C' A v) : TP C' A := by
  have o := el.1
  have o2 := el.2.1
  obtain ⟨t1, t2, t3, t4⟩ := T
  have : v = 0 ∨ v = 1 := by omega
  rcases this with rfl | rfl
  · exact ⟨by rw [o 26 (by omega) (by omega) (by omega)]; exact t1, by rw [o 27 (by omega) (by omega) (by omega)]; exact t2, ⟨(o2 1 (by omega)).trans t3.1, (o2 2 (by omega)).trans t3.2.1, (o2 3 (by omega)).trans t3.2.2.1, by rw [o 29 (by omega) (by omega) (by omega)]; exact t3.2.2.2⟩, by rw [o 30 (by omega) (by omega) (by omega), o 31 (by omega) (by omega) (by omega)]; exact t4⟩
  · exact ⟨by rw [o 26 (by omega) (by omega) (by omega)]; exact t1, by rw [o 27 (by omega) (by omega) (by omega)]; exact t2, by rw [o 28 (by omega) (by omega) (by omega), o 29 (by omega) (by omega) (by omega)]; exact t3, ⟨(o2 1 (by omega)).trans t4.1, (o2 2 (by omega)).trans t4.2.1, (o2 3 (by omega)).trans t4.2.2.1, by rw [o 31 (by omega) (by omega) (by omega)]; exact t4.2.2.2⟩⟩
theorem RO_el (hv : v < 2) (h : RO Φ bi sp w C D A J) (el : elC C C' A v) : RO Φ bi sp w C' D A J := by
  have hc : ∀ p, p ≠ 24 → p ≠ 25 → p ≠ 28 → p ≠ 30 → C' p = C p := fun p a b c d => el.1 p a b (by omega)
  obtain ⟨⟨r1, r2, r3, r4, r5, r6, r7, r8, r9, r10⟩, hSR, hT, hLc, hHc, hgh, hon, hnr, h46⟩ := h
  refine ⟨⟨DR_all r1 (fun p hp => hc p (by omega) (by omega) (by omega) (by omega)) rfl rfl (fun _ _ _ _ _ _ => rfl) (fun _ _ _ => rfl) (fun _ _ => rfl), JR_all r2 (fun _ => by rw [hc 20 (by decide) (by decide) (by decide) (by decide)]) ⟨rfl, rfl, rfl, rfl⟩ (fun _ _ => rfl), r3, r4, r5, r6, r7, ?_, ?_, TP_el hv r10 el⟩, ?_, hT, hLc, hHc, ?_, hon, hnr, h46⟩
  · unfold SPJ at r8 ⊢
    rw [hc 20 (by decide) (by decide) (by decide) (by decide)]
    exact r8
  · obtain ⟨m1, m2, m3, m4⟩ := r9
    unfold MI
    rw [hc 10 (by decide) (by decide) (by decide) (by decide), hc 11 (by decide) (by decide) (by decide) (by decide)]
    exact ⟨ci_cong m1 (fun q _ => by rw [hc 10 (by decide) (by decide) (by decide) (by decide)]) (hc 15 (by decide) (by decide) (by decide) (by decide)) (hc 16 (by decide) (by decide) (by decide) (by decide)) (hc 17 (by decide) (by decide) (by decide) (by decide)), m2, m3, m4⟩
  · exact SR_c hSR (fun p hp => hc p (by omega) (by omega) (by omega) (by omega))
  · rw [hc 100 (by decide) (by decide) (by decide) (by decide)]
    exact hgh
theorem sC_wa {s : Nat} : sC A (wa1 A v s) := by
  refine ⟨fun o ho => wa1_o A (by omega) (by omega), fun q h0 h1 h2 => ?_⟩
  unfold wa1
  rw [up2_j h1, cp67_o (by decide), up2_j h2]
theorem wa_0 {s : Nat} (h : A 35 0 = 0) : wa1 A v s 35 0 = 0 := by
  unfold wa1
  rw [up2_j (by decide), cp67_o (by decide), up2_j (by decide)]
  exact h
/-- no entries are counted where there is no size -/
theorem cn_dir (S : SR bi w C A) (P : PH t w A) (hn : n < 64) (h2 : nd A n 0 = 2) : cnE C n = 0 ↔ nd A n 1 = 0 := by
  have e := deS_eq (v := 6) S P.di hn (by omega) (by omega)
  have e1 : deS C n 6 = cnE C n := rfl
  have e2 : tdA A n 6 = td6 A n := rfl
  rw [e1, e2] at e
  rw [e, dir_empty P hn h2]
  unfold td6
  rw [if_pos h2]
  constructor
  · intro z k
    by_cases c : k < eAll A n
    · have := cn_0 (eAll A n) 0 z k (Nat.zero_le _) (by omega)
      rw [ev_at hn h2 c]
      simpa using this
    · unfold ev
      rw [if_neg (fun q => c q.2.2)]
  · intro z
    refine cn_all0 _ _ (fun k _ hk => ?_)
    have := z k
    rw [ev_at hn h2 (by omega)] at this
    rw [this]
    rfl
theorem rmdir_c (hu : 10000 ≤ fu) (h : CM b0 σ C D) (hR : ST (PH t) bi sp w C D A J) (hd : dsk A (K + 2104102)) (hg : A 35 18 = 1 → gsA A ≤ A 35 6 ∧ A 35 34 + 1 < 1000000 ∧ A 35 28 + 1 < 1000) (hun : un < 1000000000) (he : 8 + 36 * tcA A + rcA A ≤ e) (ho : 4 + 2 * tcA A ≤ o) (hP : patOk A) :
    wp (FC b0) σ (m_X10_rmdir b0 fu (b0 + 0) σ) (fun v τ => ∀ s, AZQ (PH t) b0 D K e o v τ (pubX A J un s (fun A s => hdX A 0 s rdG))) := by
  refine pubA_c (PH_good t) PH_ok (fun _ _ h => h) (by omega) h hR hd hg hun he ho (fun B J' ρ sp' C' D' af c q dk => ?_)
  clear he ho hg
  have hPB : patOk B := by
    unfold patOk at hP ⊢
    intro v hv
    rw [af.1 64 (by decide) (by decide) (by decide), af.1 (62 + v) (by omega) (by omega) (by omega)]
    exact hP v hv
  have z := af.2.1.1
  have L := c.lay
  rw [ckC_0 L, osm_p (rfC_0_7 L)]
  refine wp_bind (FC_good b0) (entryOfLast_c (fu := fu) (v := 0) (by omega) hu c q.2.1 q.2.2.1 q.1.2.2.2.2.2.2.2.2.2 hPB) ?_
  rintro x ρ1 ⟨ex, C1, c1, el⟩
  have q1 := RO_el (by omega) q el
  have S := q1.2.1
  have P := q1.2.2.1
  have L1 := c1.lay
  have qs : ∀ s, RO (PH t) bi sp' w C1 D' (wa1 B 0 s) J' := fun s => RO_scr (PH_good t) PH_ok q1 sC_wa
  have zs : ∀ s, wa1 B 0 s 35 0 = 0 := fun s => wa_0 z
  have ds : ∀ s, dsk (wa1 B 0 s) K := fun s => dsk_scr dk sC_wa
  have id : ∀ (y : Int) s, QA (PH t) b0 D' J' K (.inl (iz y)) ρ1 (y, wa1 B 0 s) := fun y s => QA_id (Nat.le_refl _) (qs s) c1 (ds s) (zs s)
  obtain ⟨a1, a2, a3⟩ := wa_bd (w := 0) S.ok
  subst ex
  by_cases cw : waA B 0 < 0
  · have eA : elA B 0 = waA B 0 := if_pos cw
    rw [eA, if_neg (fun y => by have := (iz_ge a1 a2).mp y; omega)]
    refine wp_ret ((FC_good b0).1 _) (fun s => ?_)
    have eh : hdX B 0 s rdG = (waA B 0, wa1 B 0 s) := if_pos cw
    rw [eh]
    exact id _ s
  obtain ⟨d, hy⟩ : ∃ d : Nat, waA B 0 = (d : Int) := ⟨(waA B 0).toNat, by omega⟩
  have d1 : d < 64 := by omega
  have d2 := a3 (by omega)
  rw [hy, Int.toNat_natCast] at d2
  have le := ls_le B 0
  by_cases c8 : 28 < lsN B 0
  · have eA : elA B 0 = -7 := by
      unfold elA
      rw [if_neg cw, if_pos c8]
    rw [eA, if_neg (show ¬ (0 : Int32) ≤ iz (-7) by decide)]
    refine wp_ret ((FC_good b0).1 _) (fun s => ?_)
    have eh : hdX B 0 s rdG = (-7, wa1 B 0 s) := by
      unfold hdX
      rw [if_neg cw, if_pos c8]
    rw [eh]
    exact id (-7) s
  have kw : ∀ s, kf (wa1 B 0 s) d = fA B d (fun i => B (62 + 0) (lsF B 0 + i)) (lsN B 0) ∧ eAll (wa1 B 0 s) d = eAll B d := fun s => kf_wa
  have fb : fA B d (fun i => B (62 + 0) (lsF B 0 + i)) (lsN B 0) ≤ eAll B d := fA_le
  have fN := fun (y : ¬ eAll B d ≤ fA B d (fun i => B (62 + 0) (lsF B 0 + i)) (lsN B 0)) => eN_f (A := B) (d := d) (nm := fun i => B (62 + 0) (lsF B 0 + i)) (n := lsN B 0) S.ok y
  have eA : elA B 0 = if fA B d (fun i => B (62 + 0) (lsF B 0 + i)) (lsN B 0) = eAll B d then -1 else ((fA B d (fun i => B (62 + 0) (lsF B 0 + i)) (lsN B 0) : Nat) : Int) := by
    unfold elA
    rw [if_neg cw, if_neg c8, hy, Int.toNat_natCast]
  have eh : ∀ s, hdX B 0 s rdG = rdG (wa1 B 0 s) d := fun s => by
    unfold hdX
    rw [if_neg cw, if_neg c8, hy, Int.toNat_natCast]
  rw [eA]
  generalize fA B d (fun i => B (62 + 0) (lsF B 0 + i)) (lsN B 0) = F at *
  have nds : ∀ s a i, nd (wa1 B 0 s) a i = nd B a i := fun s a i => by
    unfold nd
    rw [wa1_36]
  have eNs : ∀ s a i, eN (wa1 B 0 s) a i = eN B a i := fun s a i => by
    unfold eN ex hasA leafA pt nd
    rw [wa1_36]
  by_cases cF : F = eAll B d
  · rw [if_pos cF, if_neg (show ¬ (0 : Int32) ≤ iz (-1) by decide)]
    refine wp_ret ((FC_good b0).1 _) (fun s => ?_)
    have e2 : rdG (wa1 B 0 s) d = (-1, wa1 B 0 s) := by
      unfold rdG
      rw [(kw s).1, (kw s).2, if_pos (by omega)]
    rw [eh s, e2]
    exact id (-1) s
  have Fl : F < eAll B d := by omega
  obtain ⟨l1, l2⟩ := eA_lt S.ok d1 Fl
  have n1 := fN (by omega)
  have Fb : F < 8512 := by
    have := (nd_k S.ok d1).2.1
    unfold eAll at Fl
    omega
  have i4 : tI ρ1 (b0 + 28) 4 = nI d := by
    have e4 : C1 28 4 = (waA B 0 + 16).toNat := el.2.2
    rw [cf_28_4 c1.ca, e4, iz_x a1, hy, iz_n]
  obtain ⟨v1, v2⟩ := (VW_of S P.di).ent d F d1 d2 Fl
  have v3 : ocC C1 (ptC C1 d (F / 8) % 2048) (F % 8 * 32 + 29) = eN B d F := (v2 (by omega)).2.1
  have k0 := (hd_c S.ok S.mr n1).1
  have kb := (nd_k S.ok n1).1
  rw [if_neg cF, iz_n, if_pos (show (0 : Int32) ≤ nI F from (nI_leP (a := 0) (b := F) (by omega) (by omega)).mpr (by omega)), ckC_0 L1, osm_p (rfC_0_2 L1), osm_p (rfC_0_7 L1), ckC_28 L1, ckC_18 L1, i4, nodeAt_c c1.ca S.rk.1 d1 l2, cll_some, v3, ckC_0 L1, osm_p (rfC_0_2 L1), ckC_18 L1, kind_c c1.ca n1, cll_some, k0]
  show wp (FC b0) ρ1 (if nI (nd B (eN B d F) 0) = nI 2 then _ else _) _
  rw [if_e (by omega) (by omega)]
  have e3 : ∀ s, rdG (wa1 B 0 s) d = if nd B (eN B d F) 0 ≠ 2 then (-3, wa1 B 0 s) else if 0 < nd B (eN B d F) 1 then (-5, wa1 B 0 s) else (((eN B d F : Nat) : Int), setN (remA (wa1 B 0 s) d F) (eN B d F) 0 0) := fun s => by
    unfold rdG
    rw [(kw s).1, (kw s).2, if_neg (by omega), eNs, nds, nds]
  by_cases c2 : nd B (eN B d F) 0 = 2
  · have cd := cn_dir S P n1 c2
    have cb : cnE C1 (eN B d F) < 2147483648 := by
      have e := deS_eq (v := 6) S P.di n1 (by omega) (by omega)
      have e1 : deS C1 (eN B d F) 6 = cnE C1 (eN B d F) := rfl
      have e2 : tdA B (eN B d F) 6 = td6 B (eN B d F) := rfl
      rw [e1, e2] at e
      rw [e]
      unfold td6
      rw [if_pos c2]
      have := cn_le (fun k => eN B (eN B d F) k != 64) (eAll B (eN B d F)) 0
      have b1 := (nd_k S.ok n1).2.1
      have : eAll B (eN B d F) ≤ 8512 := by
        unfold eAll
        omega
      omega
    rw [if_pos c2, ckC_0 L1, osm_p (rfC_0_2 L1), ckC_18 L1, countEntries_c c1.ca S.rk.1 n1 (sz_le S n1) hu, cll_some]
    show wp (FC b0) ρ1 (if nI (cnE C1 (eN B d F)) = nI 0 then _ else _) _
    rw [if_e cb (by omega)]
    by_cases c0 : cnE C1 (eN B d F) = 0
    · have z1 := cd.mp c0
      obtain ⟨r, hr⟩ : ∃ r, hasA B d (F / 8) = r + 1 := ⟨hasA B d (F / 8) - 1, by have := (P.di.1 d d1 d2).2.2 _ l1; omega⟩
      have clr := (SR_clr S d1 d2 l2 hr).1
      rw [if_pos c0, ckC_0 L1, osm_p (rfC_0_2 L1), osm_p (rfC_0_7 L1), ckC_28 L1, ckC_18 L1, i4]
      refine wp_bind (FC_good b0) (removeEntry_c (fu := fu) c1 S.rk d1 l2 (sz_le clr d1) (by omega)) ?_
      intro _ ρ2 c3
      have L3 := c3.lay
      have fx := fun s => PH_rmd (k := F) (x := eN B d F) (qs s).2.1 (qs s).2.2.1 d1 (by rw [nds]; exact d2) (by rw [(kw s).2]; exact Fl) (eNs s d F) (by omega) (by rw [nds]; exact c2) (by rw [nds]; exact z1)
      have S3 := (fx 0).2.2.2
      rw [ckC_0 L3, osm_p (rfC_0_2 L3), ckC_18 L3]
      refine wp_bind (FC_good b0) (discard_c (fu := fu) c3 S3.rk n1 (sz_le S3 n1) (by omega)) ?_
      intro _ ρ3 c4
      refine wp_ret ((FC_good b0).1 _) (fun s => ?_)
      obtain ⟨g1, g2, g3, -⟩ := fx s
      rw [eh s, e3 s, if_neg (fun y => y c2), if_neg (by omega), ← iz_n]
      exact QA_mem (Nat.le_refl _) (qs s) c4 g1 g2 (fun _ _ => rfl) g3 (KC_t KC_rm KC_dis) (ds s) (zs s)
    · rw [if_neg c0]
      refine wp_ret ((FC_good b0).1 _) (fun s => ?_)
      rw [eh s, e3 s, if_neg (fun y => y c2), if_pos (by have := fun y => c0 (cd.mpr y); omega)]
      exact id (-5) s
  · rw [if_neg c2]
    refine wp_ret ((FC_good b0).1 _) (fun s => ?_)
    rw [eh s, e3 s, if_pos c2]
    exact id (-3) s
end RMD
