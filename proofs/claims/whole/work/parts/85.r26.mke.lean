/-! ===== PURE: create, mkdir, symlink ===== -/
section MKE
variable {b0 fu : Nat} {σ τ ρ : tM} {bi sp : Nat → Nat} {w : Nat → Nat × Nat} {C C' X : tS} {D D' : tD} {A B : tS} {J J' : tJ} {K n m k r t d l v un e o st : Nat}
theorem mkY_R {s : Nat} (ho : okT B) : mkY B v s = if pnA B < 0 then (pnA B, wa1 B 0 s) else if mkN B = 64 then (-10, wa1 B 0 s) else if lkA B (pnA B).toNat = true then (-6, wa1 B 0 s) else ((mkN B : Int), addA (mk4 (wa1 B 0 s) (mkN B) (pnA B).toNat v) (pnA B).toNat (wa1 B 0 s 67) (lsN B 0) (mkN B)) := by
  obtain ⟨a1, a2, a3⟩ := wa_bd (w := 0) ho
  unfold mkY
  by_cases c : waA B 0 < 0
  · have e : pnA B = waA B 0 := if_pos c
    rw [if_pos c, e, if_pos c]
  · rw [if_neg c]
    obtain ⟨d, hy⟩ : ∃ d : Nat, waA B 0 = (d : Int) := ⟨(waA B 0).toNat, by omega⟩
    have d1 : d < 64 := by omega
    have hx : mkX (wa1 B 0 s) d v = if kf (wa1 B 0 s) d < eAll (wa1 B 0 s) d then (-2, wa1 B 0 s) else if 28 < wa1 B 0 s 35 53 then (-7, wa1 B 0 s) else if mkN (wa1 B 0 s) = 64 then (-10, wa1 B 0 s) else if lkA (wa1 B 0 s) d then (-6, wa1 B 0 s) else ((mkN (wa1 B 0 s) : Int), addA (mk4 (wa1 B 0 s) (mkN (wa1 B 0 s)) d v) d (wa1 B 0 s 67) (wa1 B 0 s 35 53) (mkN (wa1 B 0 s))) := rfl
    have k := kf_wa (A := B) (v := 0) (s := s) (d := d)
    have e62 : (fun i => B (62 + 0) (lsF B 0 + i)) = fun i => B 62 (lsF B 0 + i) := rfl
    rw [e62] at k
    rw [hy, Int.toNat_natCast, hx, k.1, k.2, wa1_53, mkN_wa, (lk_wa d1).1]
    have ep : pnA B = if fA B d (fun i => B 62 (lsF B 0 + i)) (lsN B 0) < eAll B d then -2 else if 28 < lsN B 0 then -7 else (d : Int) := by
      unfold pnA
      rw [if_neg c, hy, Int.toNat_natCast]
    rw [ep]
    by_cases c1 : fA B d (fun i => B 62 (lsF B 0 + i)) (lsN B 0) < eAll B d
    · rw [if_pos c1, if_pos c1, if_pos (by decide)]
    · rw [if_neg c1, if_neg c1]
      by_cases c2 : 28 < lsN B 0
      · rw [if_pos c2, if_pos c2, if_pos (by decide)]
      · rw [if_neg c2, if_neg c2, if_neg (show ¬ (d : Int) < 0 by omega), Int.toNat_natCast]
theorem mkY_12 {s : Nat} (ho : okT B) (hv : v ≠ 3) : mkY B v s = mkR B v s := by
  rw [mkY_R ho]
  unfold mkR
  have e : mkS (wa1 B 0 s) (mkN B) (pnA B).toNat v = mk4 (wa1 B 0 s) (mkN B) (pnA B).toNat v := if_neg hv
  rw [e]
theorem syY_R {s : Nat} (ho : okT B) (h1 : 1 ≤ B 64 1) (h2 : B 64 1 ≤ 80) : syY B s = mkR B 3 s := by
  have eY := mkY_R (v := 3) (s := s) ho
  have n64 : mkN B ≤ 0 + 64 := (sr_le _ 64 0).2
  unfold syY mkR
  rw [if_neg (by omega), if_neg (by omega)]
  generalize mkY B 3 s = Y at eY ⊢
  by_cases c : pnA B < 0
  · rw [if_pos c] at eY
    rw [if_pos c, eY]
    exact if_pos c
  · rw [if_neg c] at eY
    rw [if_neg c]
    by_cases c1 : mkN B = 64
    · rw [if_pos c1] at eY
      rw [if_pos c1, eY]
      exact if_pos (show (-10 : Int) < 0 by decide)
    · rw [if_neg c1] at eY
      rw [if_neg c1]
      by_cases c2 : lkA B (pnA B).toNat = true
      · rw [if_pos c2] at eY
        rw [if_pos c2, eY]
        exact if_pos (show (-6 : Int) < 0 by decide)
      · rw [if_neg c2] at eY
        rw [if_neg c2, eY]
        show (if (mkN B : Int) < 0 then _ else ((mkN B : Int), slF (mkN B : Int).toNat (B 63) 0 (B 64 1) (setN (addA (mk4 (wa1 B 0 s) (mkN B) (pnA B).toNat 3) (pnA B).toNat (wa1 B 0 s 67) (lsN B 0) (mkN B)) (mkN B : Int).toNat 4 (B 64 1)))) = _
        rw [if_neg (by omega), Int.toNat_natCast, sl_add (by omega) h2 mk4_51]
        have e : mkS (wa1 B 0 s) (mkN B) (pnA B).toNat 3 = slF (mkN B) (B 63) 0 (B 64 1) (setN (mk4 (wa1 B 0 s) (mkN B) (pnA B).toNat 3) (mkN B) 4 (B 64 1)) := by
          unfold mkS
          rw [if_pos rfl, wa1_o B (by decide) (by decide), wa1_o B (by decide) (by decide)]
        rw [e]
theorem mkB_c (hv : v = 1 ∨ v = 2 ∨ v = 3) (hu : 10000 ≤ fu) (ht : t < 1000) (c : CM b0 ρ C D) (q : RO (PH t) bi sp w C D B J) (dk : dsk B K) (z : B 35 0 = 0) (hP : patOk B) (h34 : B 35 34 + 3 < 1000000) (hl : v = 3 → 1 ≤ B 64 1 ∧ B 64 1 ≤ 80) :
    wp (FC b0) ρ (cll (m_X10_placeForNew b0 fu (b0 + 0) ρ) (fun v12 ρ13 => ckO b0 ρ13 (b0 + 0) 10 (cll (m_X10_make b0 fu (b0 + 0) (nI v) v12 ρ13) (fun v17 ρ18 => some (Sum.inl v17, ρ18))))) (fun x τ => ∀ s, QA (PH (t + 1)) b0 D J K x τ (mkR B v s)) := by
  refine wp_bind (FC_good b0) (placeForNew_c (fu := fu) hu c q.2.1 q.2.2.1 q.1.2.2.2.2.2.2.2.2.2 hP) ?_
  rintro x ρ1 ⟨ex, C1, c1, el⟩
  subst ex
  have q1 := RO_cl (PH_good t) PH_ok q el
  rw [ckC_0 c1.lay]
  refine wp_bind (FC_good b0) (make_c (fu := fu) hv hu ht (fun s => RO_scr (PH_good t) PH_ok q1 sC_wa) q1.2.1 q1.2.2.1 c1 (fun s => dsk_scr dk sC_wa) (fun s => wa_0 z) hP h34 hl) ?_
  intro y ρ2 g
  exact wp_ret ((FC_good b0).1 _) g
theorem AF_pat (a : AF A B) (h : patOk A) : patOk B := by
  unfold patOk at h ⊢
  intro v hv
  rw [a.1 64 (by decide) (by decide) (by decide), a.1 (62 + v) (by omega) (by omega) (by omega)]
  exact h v hv
theorem create_c (hu : 10000 ≤ fu) (h : CM b0 σ C D) (hR : ST (PH t) bi sp w C D A J) (hd : dsk A (K + 2104102)) (hg : A 35 18 = 1 → gsA A ≤ A 35 6 ∧ A 35 34 + 1 < 1000000 ∧ A 35 28 + 1 < 1000) (hun : un < 1000000000) (he : 8 + 36 * tcA A + rcA A ≤ e) (ho : 4 + 2 * tcA A ≤ o) (hP : patOk A) (ht : t < 1000) (h34 : A 35 34 + 4 < 1000000) :
    wp (FC b0) σ (m_X10_create b0 fu (b0 + 0) σ) (fun v τ => ∀ s, AZQ (PH (t + 1)) b0 D K e o v τ (pubX A J un s (fun A s => mkY A 1 s))) := by
  refine pubA_c (PH_good t) PH_ok (fun _ _ h => PH_mono h (Nat.le_succ _)) (by omega) h hR hd hg hun he ho (fun B J' ρ sp' C' D' af c q dk => ?_)
  have z := af.2.1.1
  have b34 : B 35 34 + 3 < 1000000 := by have := af.2.2.1.2; omega
  rw [ckC_0 c.lay]
  have := mkB_c (fu := fu) (v := 1) (by omega) hu ht c q dk z (AF_pat af hP) b34 (fun y => by omega)
  have e : ∀ s, mkY B 1 s = mkR B 1 s := fun s => mkY_12 q.2.1.ok (by decide)
  simp only [e]
  exact this
theorem mkdir_c (hu : 10000 ≤ fu) (h : CM b0 σ C D) (hR : ST (PH t) bi sp w C D A J) (hd : dsk A (K + 2104102)) (hg : A 35 18 = 1 → gsA A ≤ A 35 6 ∧ A 35 34 + 1 < 1000000 ∧ A 35 28 + 1 < 1000) (hun : un < 1000000000) (he : 8 + 36 * tcA A + rcA A ≤ e) (ho : 4 + 2 * tcA A ≤ o) (hP : patOk A) (ht : t < 1000) (h34 : A 35 34 + 4 < 1000000) :
    wp (FC b0) σ (m_X10_mkdir b0 fu (b0 + 0) σ) (fun v τ => ∀ s, AZQ (PH (t + 1)) b0 D K e o v τ (pubX A J un s (fun A s => mkY A 2 s))) := by
  refine pubA_c (PH_good t) PH_ok (fun _ _ h => PH_mono h (Nat.le_succ _)) (by omega) h hR hd hg hun he ho (fun B J' ρ sp' C' D' af c q dk => ?_)
  have z := af.2.1.1
  have b34 : B 35 34 + 3 < 1000000 := by have := af.2.2.1.2; omega
  rw [ckC_0 c.lay]
  have := mkB_c (fu := fu) (v := 2) (by omega) hu ht c q dk z (AF_pat af hP) b34 (fun y => by omega)
  have e : ∀ s, mkY B 2 s = mkR B 2 s := fun s => mkY_12 q.2.1.ok (by decide)
  simp only [e]
  exact this
theorem symlink_c (hu : 10000 ≤ fu) (h : CM b0 σ C D) (hR : ST (PH t) bi sp w C D A J) (hd : dsk A (K + 2104102)) (hg : A 35 18 = 1 → gsA A ≤ A 35 6 ∧ A 35 34 + 1 < 1000000 ∧ A 35 28 + 1 < 1000) (hun : un < 1000000000) (he : 8 + 36 * tcA A + rcA A ≤ e) (ho : 4 + 2 * tcA A ≤ o) (hP : patOk A) (ht : t < 1000) (h34 : A 35 34 + 4 < 1000000) :
    wp (FC b0) σ (m_X10_symlink b0 fu (b0 + 0) σ) (fun v τ => ∀ s, AZQ (PH (t + 1)) b0 D K e o v τ (pubX A J un s syY)) := by
  refine pubA_c (PH_good t) PH_ok (fun _ _ h => PH_mono h (Nat.le_succ _)) (by omega) h hR hd hg hun he ho (fun B J' ρ sp' C' D' af c q dk => ?_)
  have z := af.2.1.1
  have b34 : B 35 34 + 3 < 1000000 := by have := af.2.2.1.2; omega
  have L := c.lay
  have hB := AF_pat af hP
  have T := q.1.2.2.2.2.2.2.2.2.2
  have e30 : C' 30 1 = B 64 1 := T.2.2.2.1
  have l1 := (hB 1 (by omega)).1
  unfold J_X10_symlink_30
  rw [ckC_0 L, osm_p (rfC_0_8 L), ckC_30 L, cf_30_1 c.ca, e30]
  show wp (FC b0) ρ (if nI (B 64 1) < nI 1 then _ else _) _
  rw [if_t (by omega) (by omega)]
  by_cases c1 : B 64 1 < 1
  · rw [if_pos c1]
    refine wp_ret ((FC_good b0).1 _) (fun s => ?_)
    have e : syY B s = (-9, B) := if_pos c1
    rw [e]
    exact QA_id (v := -9) (Nat.le_succ _) q c dk z
  rw [if_neg c1, osm_p (rfC_0_8 L), ckC_30 L, cf_30_1 c.ca, e30]
  show wp (FC b0) ρ (if nI (B 64 1) ≤ nI 80 then _ else _) _
  rw [if_l (by omega) (by omega)]
  by_cases c2 : B 64 1 ≤ 80
  · rw [if_pos c2]
    have := mkB_c (fu := fu) (v := 3) (by omega) hu ht c q dk z hB b34 (fun y => by omega)
    have e : ∀ s, syY B s = mkR B 3 s := fun s => syY_R q.2.1.ok (by omega) c2
    simp only [e]
    exact this
  · rw [if_neg c2]
    refine wp_ret ((FC_good b0).1 _) (fun s => ?_)
    have e : syY B s = (-9, B) := by
      unfold syY
      rw [if_neg c1, if_pos (by omega)]
    rw [e]
    exact QA_id (v := -9) (Nat.le_succ _) q c dk z
end MKE
