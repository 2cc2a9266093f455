/-! ===== PURE: create, mkdir, symlink, in both ===== -/
def mkR (B : tS) (v s : Nat) : Int × tS := if pnA B < 0 then (pnA B, wa1 B 0 s) else if mkN B = 64 then (-10, wa1 B 0 s) else if lkA B (pnA B).toNat = true then (-6, wa1 B 0 s) else ((mkN B : Int), addA (mkS (wa1 B 0 s) (mkN B) (pnA B).toNat v) (pnA B).toNat (wa1 B 0 s 67) (lsN B 0) (mkN B))
section MKD
variable {b0 fu : Nat} {σ τ ρ : tM} {bi sp : Nat → Nat} {w : Nat → Nat × Nat} {C C' X : tS} {D D' : tD} {A B : tS} {J J' : tJ} {K n m k r t d l v un e o st : Nat}
theorem pn_bd (ho : okT B) : -10 ≤ pnA B ∧ pnA B < 64 := by
  obtain ⟨a1, a2, a3⟩ := wa_bd (w := 0) ho
  unfold pnA
  split
  · exact ⟨a1, a2⟩
  · split
    · omega
    · split
      · omega
      · exact ⟨a1, a2⟩
theorem pn_d (ho : okT B) (h : ¬ pnA B < 0) : pnA B = waA B 0 ∧ 0 ≤ waA B 0 ∧ lsN B 0 ≤ 28 ∧ 1 ≤ lsN B 0 ∧ ∃ d : Nat, pnA B = (d : Int) ∧ d < 64 ∧ nd B d 0 = 2 ∧ fA B d (fun i => B 62 (lsF B 0 + i)) (lsN B 0) = eAll B d := by
  obtain ⟨a1, a2, a3⟩ := wa_bd (w := 0) ho
  unfold pnA at h ⊢
  by_cases e1 : waA B 0 < 0
  · rw [if_pos e1] at h
    exact absurd e1 h
  · rw [if_neg e1] at h ⊢
    by_cases e2 : fA B (waA B 0).toNat (fun i => B 62 (lsF B 0 + i)) (lsN B 0) < eAll B (waA B 0).toNat
    · rw [if_pos e2] at h
      exact absurd (by decide) h
    · rw [if_neg e2] at h ⊢
      by_cases e3 : 28 < lsN B 0
      · rw [if_pos e3] at h
        exact absurd (by decide) h
      · rw [if_neg e3]
        have le := fA_le (A := B) (d := (waA B 0).toNat) (nm := fun i => B 62 (lsF B 0 + i)) (l := lsN B 0)
        exact ⟨rfl, by omega, by omega, wa_ls (by omega), (waA B 0).toNat, by omega, by omega, a3 (by omega), by omega⟩
theorem mkN_wa {s : Nat} : mkN (wa1 B 0 s) = mkN B := by
  unfold mkN nd
  rw [wa1_36]
theorem lk_wa {s : Nat} (hd : d < 64) : lkA (wa1 B 0 s) d = lkA B d ∧ ffA (wa1 B 0 s) d = ffA B d ∧ eAll (wa1 B 0 s) d = eAll B d := by
  have e1 := (fA_36 (A := B) (d := d) (nm := fun _ => 0) (l := 0) (wa1_36 (w := 0) (s := s) B)).2
  have e2 : ffA (wa1 B 0 s) d = ffA B d := by
    unfold ffA
    rw [e1]
    unfold eN ex hasA leafA pt nd
    rw [wa1_36]
  obtain ⟨-, e3, e4⟩ := nee_oth (A := B) (B := wa1 B 0 s) (n := if d = 0 then 1 else 0) (d := d) (k := ffA B d / 8) (m := ffA B d / 8) (fun j _ => by rw [wa1_36]) (wa1_o B (by decide) (by decide)) (wa1_7 B) (by split <;> omega) hd (by split <;> omega)
  refine ⟨?_, e2, e1⟩
  unfold lkA
  rw [e1, e2, e3, e4]
theorem pat_wa {s : Nat} (h : patOk B) : patOk (wa1 B 0 s) := by
  unfold patOk at h ⊢
  intro v hv
  rw [wa1_o B (by decide) (by decide), wa1_o B (by omega) (by omega)]
  exact h v hv
theorem make_c (hv : v = 1 ∨ v = 2 ∨ v = 3) (hu : 10000 ≤ fu) (ht : t < 1000) (q : ∀ s, RO (PH t) bi sp w C D (wa1 B 0 s) J) (S : SR bi w C B) (P : PH t w B) (c : CM b0 ρ C D) (ds : ∀ s, dsk (wa1 B 0 s) K) (zs : ∀ s, wa1 B 0 s 35 0 = 0) (hP : patOk B) (h34 : B 35 34 + 3 < 1000000) (hl : v = 3 → 1 ≤ B 64 1 ∧ B 64 1 ≤ 80) :
    wp (FC b0) ρ (m_X10_make b0 fu (b0 + 0) (nI v) (iz (pnA B)) ρ) (fun x τ => ∀ s, QA (PH (t + 1)) b0 D J K (.inl x) τ (mkR B v s)) := by
  have L := c.lay
  refine wp_grw (FC_good b0) ?_
  have pb := pn_bd S.ok
  have id : ∀ (y : Int) s, QA (PH (t + 1)) b0 D J K (.inl (iz y)) ρ (y, wa1 B 0 s) := fun y s => QA_id (Nat.le_succ _) (q s) c (ds s) (zs s)
  by_cases c0 : pnA B < 0
  · rw [if_neg (fun y => by have := (iz_ge pb.1 pb.2).mp y; omega)]
    refine wp_ret ((FC_good b0).1 _) (fun s => ?_)
    have : mkR B v s = (pnA B, wa1 B 0 s) := if_pos c0
    rw [this]
    exact id _ s
  obtain ⟨-, -, l28, l1, d, hy, d1, d2, -⟩ := pn_d S.ok c0
  have mr : ∀ s, mkR B v s = if mkN B = 64 then (-10, wa1 B 0 s) else if lkA B d = true then (-6, wa1 B 0 s) else ((mkN B : Int), addA (mkS (wa1 B 0 s) (mkN B) d v) d (wa1 B 0 s 67) (lsN B 0) (mkN B)) := fun s => by
    unfold mkR
    rw [if_neg c0, hy, Int.toNat_natCast]
  have n64 : mkN B ≤ 0 + 64 := (sr_le _ 64 0).2
  have le := ls_le B 0
  have pl := (hP 0 (by omega)).1
  rw [hy, iz_n, if_pos (iz_neg (by omega)), ckC_0 L, osm_p (rfC_0_2 L), ckC_18 L, lowestUnused_c c.ca (by omega), cll_some, mk_eq S]
  by_cases cN : mkN B = 64
  · rw [if_pos cN, if_neg (show ¬ (0 : Int32) ≤ -1 by decide)]
    refine wp_ret ((FC_good b0).1 _) (fun s => ?_)
    rw [mr s, if_pos cN]
    exact id (-10) s
  obtain ⟨e1, e2, e3, e4⟩ := lk_eq S P ht d1 d2
  obtain ⟨f1, f2⟩ := ff_t P d1 d2 ht
  rw [if_neg cN, if_pos (iz_neg (by omega)), ckC_0 L, osm_p (rfC_0_2 L), ckC_18 L, hasPlaceForEntry_c c.ca S.rk.1 d1 (sz_le S d1) (by rw [e1]; omega) hu, cll_some, e4]
  show wp (FC b0) ρ (if nI (b2n (!lkA B d)) = nI 0 then _ else _) _
  cases hk : lkA B d with
  | true =>
    rw [if_pos (show nI (b2n (!true)) = nI 0 from rfl)]
    refine wp_ret ((FC_good b0).1 _) (fun s => ?_)
    rw [mr s, if_neg cN, if_pos hk]
    exact id (-6) s
  | false =>
    have n0 := mk_lt (A := B) (by omega)
    generalize hn : mkN B = n at *
    have n1 : n < 64 := by omega
    rw [if_neg (show ¬ nI (b2n (!false)) = nI 0 by decide), ckC_0 L, osm_p (rfC_0_2 L), ckC_18 L]
    -- both memories with the node set up, whatever the scratch
    have nds : ∀ s a i, nd (wa1 B 0 s) a i = nd B a i := fun s a i => by
      unfold nd
      rw [wa1_36]
    have w64 : ∀ s, wa1 B 0 s 64 1 = B 64 1 := fun s => by rw [wa1_o B (by decide) (by decide)]
    have T0 : TP C (wa1 B 0 0) := (q 0).1.2.2.2.2.2.2.2.2.2
    have S1 : ∀ s, SR bi w (mkC C n d v) (mkS (wa1 B 0 s) n d v) := fun s => SR_mkS (q s).2.1 (q s).1.2.2.2.2.2.2.2.2.2 (pat_wa hP) hv n1 (by rw [nds]; exact n0) d1 (fun y => by rw [w64]; exact (hl y).2)
    have fx : ∀ s, _ := fun s => mkS_fx (A := wa1 B 0 s) (d := d) (v := v) n1 (fun y => by rw [w64]; exact (hl y).2)
    have dn : d ≠ n := fun y => by rw [y] at d2; omega
    have nf : ∀ s, _ := fun s => new_fx n1 (by rw [nds]; exact n0) (q s).2.1.ok (q s).2.1.ti (q s).2.2.1.di (q s).2.2.1.tf (S1 s).ti d1 (by rw [nds]; exact d2) hv (fx s).1 (fx s).2.1 (fx s).2.2.1 (fx s).2.2.2.2.1 (fun y => by rw [(fx s).2.2.2.2.2.1 y, w64]; exact (hl y).1)
    have kd : ∀ s, nd (mkS (wa1 B 0 s) n d v) d 0 = 2 := fun s => by
      have : mkS (wa1 B 0 s) n d v 36 (d * 95 + 0) = _ := (fx s).1 _ (by omega)
      unfold nd
      rw [this]
      exact (nds s d 0).trans d2
    have fe : ∀ s, ffA (mkS (wa1 B 0 s) n d v) d = ffA B d ∧ eAll (mkS (wa1 B 0 s) n d v) d = eAll B d := fun s => by
      have k1 : nd (mkS (wa1 B 0 s) n d v) d 1 = nd (wa1 B 0 s) d 1 := (fx s).1 _ (by omega)
      have eA : eAll (mkS (wa1 B 0 s) n d v) d = eAll (wa1 B 0 s) d := by
        unfold eAll
        rw [k1]
      have := ff_cg (B := mkS (wa1 B 0 s) n d v) (A := wa1 B 0 s) k1 (fun k hk => by
        have := (nf s).2.2 d k
        rw [ev_at d1 (kd s) (by rw [eA]; exact hk), ev_at d1 (by rw [nds]; exact d2) hk] at this
        exact this)
      rw [(lk_wa (B := B) (s := s) d1).2.1, (lk_wa (B := B) (s := s) d1).2.2] at this
      exact this
    have hf : ∀ s, ffA (mkS (wa1 B 0 s) n d v) d = eAll (mkS (wa1 B 0 s) n d v) d → obN (mkC C n d v) d (ffA (mkS (wa1 B 0 s) n d v) d / 8) ≤ fre (mkS (wa1 B 0 s) n d v) := fun s y => by
      rw [(fe s).1, (fe s).2] at y
      rw [(fe s).1]
      obtain ⟨o1, o2, o3⟩ := nee_oth (A := wa1 B 0 s) (B := mkS (wa1 B 0 s) n d v) (k := ffA B d / 8) (m := ffA B d / 8) (fx s).1 (fx s).2.2.2.2.2.2.2.1 ((fx s).2.2.2.2.2.2.1.2.1 7 (by decide)) n1 d1 dn
      have z1 := ((q s).2.2.1.di.1 d d1 (by rw [nds]; exact d2)).1
      rw [nds] at z1
      have h0 : hasA (wa1 B 0 s) d (ffA B d / 8) = 0 := (q s).2.2.1.di.2.2.2.1 d d1 (Or.inr (by rw [nds]; exact d2)) _ (by omega) (by rw [nds]; unfold eAll at y; omega)
      have ob := ob_ne (S1 s) d1 (by rw [kd s]; omega) (show ffA B d / 8 < 1064 by omega) (by rw [o1]; exact h0)
      have ne := ne_eq (fr := ffA B d / 8) (to := ffA B d / 8) (S1 s) d1 (by rw [kd s]; omega) (by omega) (Nat.le_refl _)
      rw [show ffA B d / 8 + 1 - ffA B d / 8 = 1 by omega, o2] at ne
      rw [ne] at ob
      rw [o3]
      have hk2 : lkA (wa1 B 0 s) d = false := by rw [(lk_wa d1).1]; exact hk
      unfold lkA at hk2
      rw [(lk_wa d1).2.1, (lk_wa d1).2.2] at hk2
      have : ¬ fre (wa1 B 0 s) < nee (wa1 B 0 s) d (ffA B d / 8) (ffA B d / 8) := fun z => of_decide_eq_false hk2 ⟨y, z⟩
      omega
    have b34 : ∀ s, mkS (wa1 B 0 s) n d v 35 34 + 3 < 1000000 := fun s => by
      rw [(fx s).2.2.2.2.2.2.2.2]
      have : wa1 B 0 s 35 34 = B 35 34 := by
        unfold wa1
        rw [up2_j (by decide), cp67_o (by decide), up2_j (by decide)]
      omega
    have kc : KC C (mkC C n d v) := KC_mk
    have fin : ∀ ρ', CM b0 ρ' (mkC C n d v) D → wp (FC b0) ρ' (J_X10_make_62 b0 fu (b0 + 0) (nI d) (nI n) ρ') (fun x τ => ∀ s, QA (PH (t + 1)) b0 D J K (.inl x) τ (mkR B v s)) := by
      intro ρ' c1
      have L1 := c1.lay
      have c2 : mkC C n d v 28 2 = lsF B 0 := by
        rw [kc 28 (by omega)]
        exact T0.2.2.1.2.1
      have c3 : mkC C n d v 28 3 = lsN B 0 := by
        rw [kc 28 (by omega)]
        exact T0.2.2.1.2.2.1
      have c29 : ∀ j, mkC C n d v 29 j = B 62 j := fun j => by
        rw [kc 29 (by omega), T0.2.2.1.2.2.2 j, wa1_o B (by decide) (by decide)]
      unfold J_X10_make_62
      rw [ckC_0 L1, osm_p (rfC_0_2 L1), osm_p (rfC_0_7 L1), ckC_18 L1]
      refine wp_bind (FC_good b0) (addE_c (fu := fu) (v := 0) (n := n) (st := lsF B 0) (l := lsN B 0) (by omega) hu c1 (S1 0) (nf 0).2.1 d1 (kd 0) (by rw [(fe 0).1]; exact f1) (hf 0) (b34 0) n1 c2 c3 l28 (by omega)) ?_
      intro _ ρ2 c4
      refine wp_ret ((FC_good b0).1 _) (fun s => ?_)
      obtain ⟨bi', w', g1, g2, g3, g4⟩ := PH_new (o := 29) (st := lsF B 0) (l := lsN B 0) (v := v) (q s).2.1 (q s).2.2.1 ht n1 (by rw [nds]; exact n0) d1 (by rw [nds]; exact d2) hv (S1 s) (fx s).1 (fx s).2.1 (fx s).2.2.1 (fx s).2.2.2.1 (fx s).2.2.2.2.1 (fun y => by rw [(fx s).2.2.2.2.2.1 y, w64]; exact (hl y).1) (fx s).2.2.2.2.2.2.1 (hf s) (b34 s) (by unfold rwO; decide) l1 l28 (fun i hi => by
        rw [c29]
        have : B 62 (lsF B 0 + i) ≤ 126 := ((hP 0 (by omega)).2 (lsF B 0 + i) (by omega)).2
        omega)
      have ec : addA (mkS (wa1 B 0 s) n d v) d (fun i => mkC C n d v 29 (lsF B 0 + i)) (lsN B 0) n = addA (mkS (wa1 B 0 s) n d v) d (wa1 B 0 s 67) (lsN B 0) n := addA_cg (fun j hj => by
        rw [wa1_67 B hj]
        exact c29 _)
      rw [ec] at g1 g3 g4
      rw [mr s, if_neg cN, if_neg (by rw [hk]; decide), ← iz_n]
      exact QA_mem (Nat.le_succ _) (q s) c4 g1 g3 g2 g4 (KC_t kc KC_ad) (ds s) (zs s)
    refine wp_bind (FC_good b0) (setUp_c (fu := fu) c S.rk.1 n1 (by omega) (by omega)) ?_
    intro _ ρ1 c1
    have L1 := c1.lay
    show wp (FC b0) ρ1 (if nI v = nI 3 then _ else _) _
    rw [if_e (by omega) (by omega)]
    by_cases c3 : v = 3
    · rw [if_pos c3, ckC_0 L1, osm_p (rfC_0_2 L1), osm_p (rfC_0_8 L1), ckC_18 L1]
      have e30 : suC C n v d 30 1 = B 64 1 := by
        rw [KC_su 30 (by omega), T0.2.2.2.1, w64]
      refine wp_bind (FC_good b0) (setText_c (fu := fu) (Or.inr ⟨rfl, rfl⟩) c1 (ci_19 (ci_sn S.rk.1)) n1 e30 (hl c3).2 (by omega)) ?_
      intro _ ρ2 c4
      refine fin ρ2 ?_
      unfold mkC
      rw [if_pos c3, T0.2.2.2.1, w64, ← c3]
      exact c4
    · rw [if_neg c3]
      refine fin ρ1 ?_
      unfold mkC
      rw [if_neg c3]
      exact c1
end MKD
