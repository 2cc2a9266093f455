/-! ===== PURE: link, in both ===== -/
section LNK
variable {b0 fu : Nat} {σ τ ρ : tM} {bi sp : Nat → Nat} {w : Nat → Nat × Nat} {C C' X : tS} {D D' : tD} {A B : tS} {J J' : tJ} {K n m k r t d l v un e o st x : Nat}
theorem lnY_R {s : Nat} (ho : okT B) (hx : wtA B 1 false = (x : Int)) (h2 : nd B x 0 ≠ 2) : lnY B s = if pnA B < 0 then (pnA B, wa1 B 0 s) else if nd B x 2 = 200 then (-10, wa1 B 0 s) else if lkA B (pnA B).toNat = true then (-6, wa1 B 0 s) else ((nd (addA (wa1 B 0 s) (pnA B).toNat (wa1 B 0 s 67) (lsN B 0) x) x 2 + 1 : Nat), setN (addA (wa1 B 0 s) (pnA B).toNat (wa1 B 0 s 67) (lsN B 0) x) x 2 (nd (addA (wa1 B 0 s) (pnA B).toNat (wa1 B 0 s 67) (lsN B 0) x) x 2 + 1)) := by
  obtain ⟨a1, a2, a3⟩ := wa_bd (w := 0) ho
  unfold lnY
  rw [hx, Int.toNat_natCast, if_neg (by omega), if_neg h2]
  by_cases c : waA B 0 < 0
  · have e : pnA B = waA B 0 := if_pos c
    rw [if_pos c, e, if_pos c]
  · rw [if_neg c]
    obtain ⟨d, hy⟩ : ∃ d : Nat, waA B 0 = (d : Int) := ⟨(waA B 0).toNat, by omega⟩
    have d1 : d < 64 := by omega
    have k := kf_wa (A := B) (v := 0) (s := s) (d := d)
    have e62 : (fun i => B (62 + 0) (lsF B 0 + i)) = fun i => B 62 (lsF B 0 + i) := rfl
    rw [e62] at k
    have n2 : nd (wa1 B 0 s) x 2 = nd B x 2 := by
      unfold nd
      rw [wa1_36]
    unfold lnG
    rw [hy, Int.toNat_natCast, k.1, k.2, wa1_53, n2, (lk_wa d1).1]
    have ep : pnA B = if fA B d (fun i => B 62 (lsF B 0 + i)) (lsN B 0) < eAll B d then -2 else if 28 < lsN B 0 then -7 else (d : Int) := by
      unfold pnA
      rw [if_neg c, hy, Int.toNat_natCast]
    rw [ep]
    by_cases c1 : fA B d (fun i => B 62 (lsF B 0 + i)) (lsN B 0) < eAll B d
    · rw [if_pos c1, if_pos c1, if_pos (by decide)]
    · rw [if_neg c1, if_neg c1]
      by_cases c2 : 28 < lsN B 0
      · rw [if_pos c2, if_pos c2, if_pos (by decide)]
      · rw [if_neg c2, if_neg c2, if_neg (show ¬ (d : Int) < 0 by omega), Int.toNat_natCast]
theorem link_c (hu : 10000 ≤ fu) (h : CM b0 σ C D) (hR : ST (PH t) bi sp w C D A J) (hd : dsk A (K + 2104102)) (hg : A 35 18 = 1 → gsA A ≤ A 35 6 ∧ A 35 34 + 1 < 1000000 ∧ A 35 28 + 1 < 1000) (hun : un < 1000000000) (he : 8 + 36 * tcA A + rcA A ≤ e) (ho : 4 + 2 * tcA A ≤ o) (hP : patOk A) (ht : t < 1000) (h34 : A 35 34 + 4 < 1000000) :
    wp (FC b0) σ (m_X10_link b0 fu (b0 + 0) σ) (fun v τ => ∀ s, AZQ (PH (t + 1)) b0 D K e o v τ (pubX A J un s lnY)) := by
  refine pubA_c (PH_good t) PH_ok (fun _ _ h => PH_mono h (Nat.le_succ _)) (by omega) h hR hd hg hun he ho (fun B J' ρ sp' C' D' af c q dk => ?_)
  clear he ho hg
  have z := af.2.1.1
  have b34 : B 35 34 + 3 < 1000000 := by have := af.2.2.1.2; omega
  have L := c.lay
  have hB := AF_pat af hP
  rw [ckC_0 L, osm_p (rfC_0_5 L), osm_p (rfC_0_8 L), ckC_24 L]
  refine wp_bind (FC_good b0) (walkWhole_c (fu := fu) (w := 1) (by omega) c q.2.1.rk.1 (VW_of q.2.1 q.2.2.1.di) q.1.2.2.2.2.2.2.2.2.2 hB false hu) ?_
  rintro y ρ1 ⟨ey, C1, c1, el⟩
  have q1 := RO_cl (PH_good t) PH_ok q el
  have S := q1.2.1
  have P := q1.2.2.1
  have L1 := c1.lay
  have ey : y = iz (wtA B 1 false) := ey
  subst ey
  obtain ⟨a1, a2⟩ := wt_bd (w := 1) (fo := false) P.1
  have id5 : ∀ (y : Int) s, QA (PH (t + 1)) b0 D' J' K (.inl (iz y)) ρ1 (y, up2 B 35 51 s) := fun y s => QA_id (Nat.le_succ _) (RO_scr (PH_good t) PH_ok q1 sC_51) c1 (dsk_scr dk sC_51) (by rw [up2_j (by decide)]; exact z)
  by_cases cw : wtA B 1 false < 0
  · rw [if_neg (fun y => by have := (iz_ge a1 a2).mp y; omega)]
    refine wp_ret ((FC_good b0).1 _) (fun s => ?_)
    have : lnY B s = (wtA B 1 false, up2 B 35 51 s) := if_pos cw
    rw [this]
    exact id5 _ s
  obtain ⟨x, hx⟩ : ∃ x : Nat, wtA B 1 false = (x : Int) := ⟨(wtA B 1 false).toNat, by omega⟩
  obtain ⟨x1, x2, -⟩ := wt_us P hx
  have kb := nd_k S.ok x1
  rw [hx, iz_n, if_pos (iz_neg (by omega)), ckC_0 L1, osm_p (rfC_0_2 L1), ckC_18 L1, kind_c c1.ca x1, cll_some, (hd_c S.ok S.mr x1).1]
  show wp (FC b0) ρ1 (if nI (nd B x 0) = nI 2 then _ else _) _
  rw [if_e (by omega) (by omega)]
  by_cases c2 : nd B x 0 = 2
  · rw [if_pos c2]
    refine wp_ret ((FC_good b0).1 _) (fun s => ?_)
    have : lnY B s = (-4, up2 B 35 51 s) := by
      unfold lnY
      rw [hx, Int.toNat_natCast, if_neg (by omega), if_pos c2]
    rw [this]
    exact id5 (-4) s
  have k13 : nd B x 0 = 1 ∨ nd B x 0 = 3 := by omega
  have N200 : nd B x 2 ≤ 200 := (P.nf.2.2.1 x x1 k13).2
  rw [if_neg c2, ckC_0 L1]
  refine wp_bind (FC_good b0) (placeForNew_c (fu := fu) hu c1 S P q1.1.2.2.2.2.2.2.2.2.2 hB) ?_
  rintro y ρ2 ⟨ey, C2, c3, el2⟩
  subst ey
  have q2 := RO_cl (PH_good t) PH_ok q1 el2
  have S2 := q2.2.1
  have L2 := c3.lay
  have qs : ∀ s, RO (PH t) bi sp' w C2 D' (wa1 B 0 s) J' := fun s => RO_scr (PH_good t) PH_ok q2 sC_wa
  have zs : ∀ s, wa1 B 0 s 35 0 = 0 := fun s => wa_0 z
  have ds : ∀ s, dsk (wa1 B 0 s) K := fun s => dsk_scr dk sC_wa
  have id : ∀ (y : Int) s, QA (PH (t + 1)) b0 D' J' K (.inl (iz y)) ρ2 (y, wa1 B 0 s) := fun y s => QA_id (Nat.le_succ _) (qs s) c3 (ds s) (zs s)
  have ly := fun s => lnY_R (s := s) S.ok hx c2
  have pb := pn_bd S.ok
  by_cases c0 : pnA B < 0
  · rw [if_neg (fun y => by have := (iz_ge pb.1 pb.2).mp y; omega)]
    refine wp_ret ((FC_good b0).1 _) (fun s => ?_)
    rw [ly s, if_pos c0]
    exact id _ s
  obtain ⟨-, -, l28, l1, d, hy, d1, d2, -⟩ := pn_d S.ok c0
  have le := ls_le B 0
  have pl := (hB 0 (by omega)).1
  have na := ((hd_c S2.ok S2.mr x1).2 x2).1
  rw [hy, iz_n, if_pos (iz_neg (by omega)), ckC_0 L2, osm_p (rfC_0_2 L2), ckC_18 L2, names_c c3.ca x1, cll_some, na]
  show wp (FC b0) ρ2 (if nI (nd B x 2) < nI 200 then _ else _) _
  rw [if_t (by omega) (by omega)]
  by_cases cM : nd B x 2 = 200
  · rw [if_neg (by omega)]
    refine wp_ret ((FC_good b0).1 _) (fun s => ?_)
    rw [ly s, if_neg c0, if_pos cM]
    exact id (-10) s
  obtain ⟨e1, e2, e3, e4⟩ := lk_eq S2 P ht d1 d2
  obtain ⟨f1, f2⟩ := ff_t P d1 d2 ht
  rw [if_pos (by omega), ckC_0 L2, osm_p (rfC_0_2 L2), ckC_18 L2, hasPlaceForEntry_c c3.ca S2.rk.1 d1 (sz_le S2 d1) (by rw [e1]; omega) hu, cll_some, e4]
  show wp (FC b0) ρ2 (if nI (b2n (!lkA B d)) = nI 0 then _ else _) _
  cases hk : lkA B d with
  | true =>
    rw [if_pos (show nI (b2n (!true)) = nI 0 from rfl)]
    refine wp_ret ((FC_good b0).1 _) (fun s => ?_)
    rw [ly s, if_neg c0, if_neg cM, hy, Int.toNat_natCast, if_pos hk]
    exact id (-6) s
  | false =>
    rw [if_neg (show ¬ nI (b2n (!false)) = nI 0 by decide), ckC_0 L2, osm_p (rfC_0_2 L2), osm_p (rfC_0_7 L2), ckC_18 L2]
    have T := q2.1.2.2.2.2.2.2.2.2.2
    have hf := ob_lk S2 P ht d1 d2 hk
    refine wp_bind (FC_good b0) (addE_c (fu := fu) (v := 0) (n := x) (st := lsF B 0) (l := lsN B 0) (by omega) hu c3 S2 P.di d1 d2 f1 hf b34 x1 T.2.2.1.2.1 T.2.2.1.2.2.1 l28 (by omega)) ?_
    intro _ ρ3 c4
    have L4 := c4.lay
    have nds : ∀ s a i, nd (wa1 B 0 s) a i = nd B a i := fun s a i => by
      unfold nd
      rw [wa1_36]
    have w34 : ∀ s, wa1 B 0 s 35 34 = B 35 34 := fun s => by
      unfold wa1
      rw [up2_j (by decide), cp67_o (by decide), up2_j (by decide)]
    have c29 : ∀ j, C2 29 j = B 62 j := T.2.2.1.2.2.2
    have ch : ∀ i, i < lsN B 0 → C2 29 (lsF B 0 + i) < 128 := fun i hi => by
      rw [c29]
      have : B 62 (lsF B 0 + i) ≤ 126 := ((hB 0 (by omega)).2 (lsF B 0 + i) (by omega)).2
      omega
    have fx : ∀ s, _ := fun s => PH_link (o := 29) (st := lsF B 0) (l := lsN B 0) (x := x) (d := d) (qs s).2.1 (qs s).2.2.1 ht x1 (by rw [nds]; exact k13) (by rw [nds]; omega) d1 (by rw [nds]; exact d2) (ob_lk (qs s).2.1 (qs s).2.2.1 ht d1 (by rw [nds]; exact d2) (by rw [(lk_wa d1).1]; exact hk)) (by rw [w34]; exact b34) (by unfold rwO; decide) l1 l28 ch
    have ec : ∀ s, addA (wa1 B 0 s) d (fun i => C2 29 (lsF B 0 + i)) (lsN B 0) x = addA (wa1 B 0 s) d (wa1 B 0 s 67) (lsN B 0) x := fun s => addA_cg (fun j hj => by
      rw [wa1_67 B hj]
      exact c29 _)
    obtain ⟨bi0, w0, g1, -⟩ := add_all (o := 29) (st := lsF B 0) (l := lsN B 0) (v := x) S2 P.tf P.di d1 d2 f1 hf b34 (by unfold rwO; decide) l1 l28 ch x1 x2
    have ad1 : nI (nd B x 2) + 1 = nI (nd B x 2 + 1) := ofi _
    rw [ad1, ckC_0 L4, osm_p (rfC_0_2 L4), ckC_18 L4]
    have sl := sz_le g1 x1
    have c4 : CM b0 ρ3 (adEn C2 d 29 (lsF B 0) (lsN B 0) x) D' := c4
    refine wp_bind (FC_good b0) (setNames_c (fu := fu) c4 g1.rk.1 x1 (by omega) (show nd B x 2 + 1 < 256 by omega)) ?_
    intro _ ρ4 c5
    refine wp_ret ((FC_good b0).1 _) (fun s => ?_)
    obtain ⟨bi', w', i1, i2, i3, i4, i5⟩ := fx s
    rw [ec s, nds] at i1 i3 i4 i5
    rw [ly s, if_neg c0, if_neg cM, hy, Int.toNat_natCast, if_neg (by rw [hk]; decide), i5, ← iz_n]
    exact QA_mem (Nat.le_succ _) (qs s) c5 i1 i3 i2 i4 (KC_t KC_ad KC_sh) (ds s) (zs s)
end LNK
