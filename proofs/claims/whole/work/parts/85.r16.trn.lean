/-! ===== PURE: truncate and close, in both ===== -/
section TRN
variable {Φ Ψ : tPh} {b0 fu : Nat} {σ τ : tM} {bi bi' sp : Nat → Nat} {w w' : Nat → Nat × Nat} {C C' C2 X : tS} {D D' : tD} {A B B2 : tS} {J J' : tJ} {K n m k r t t' un e o : Nat}
theorem QA_mem {v : Int} (ht : t ≤ t') (q : RO (PH t) bi sp w C D B J) (c : CM b0 τ C2 D) (s : SR bi' w' C2 B2) (p : PH t' w' B2) (he : ∀ x, bi x ≠ 0 → bi' x = bi x) (kr : KR B B2) (kc : KC C C2) (d : dsk B K) (z : B 35 0 = 0) : QA (PH t') b0 D J K (.inl (iz v)) τ (v, B2) := by
  have q1 := RO_ph (Ψ := PH t') (fun w A h => PH_mono h ht) q
  refine ⟨rfl, by show B2 35 0 = 0; rw [kr.2.1 0 (by decide)]; exact z, bi', sp, w', C2, D, c, RO_mem (PH_good t') PH_ok PH_ti q1 (fun p hp => kc p (by omega)) he (fun o a b => kr.1 o (by omega) (by omega) (by omega)) (fun q _ a _ => kr.2.1 q a) kr.2.2 s p ?_, EL_r, dsk_cg d (fun q hq => kr.2.1 q (by omega)) (kr.1 42 (by decide) (by decide) (by omega)) (kr.1 43 (by decide) (by decide) (by omega))⟩
  exact TP_all q.1.2.2.2.2.2.2.2.2.2 (fun p hp => kc p (by omega)) (fun o ho => kr.1 o (by omega) (by omega) (by omega)) (kr.2.1 57 (by decide))
/-- nothing happens -/
theorem QA_id {v : Int} (ht : t ≤ t') (q : RO (PH t) bi sp w C D B J) (c : CM b0 τ C D) (d : dsk B K) (z : B 35 0 = 0) : QA (PH t') b0 D J K (.inl (iz v)) τ (v, B) := ⟨rfl, z, bi, sp, w, C, D, c, RO_ph (fun w A h => PH_mono h ht) q, EL_r, d⟩
theorem AF_HO (a : AF A B) (h : HO A) : HO B := by
  unfold HO nd at h ⊢
  rw [a.1 71 (by decide) (by decide) (by decide), a.1 36 (by decide) (by decide) (by decide)]
  exact h
theorem truncate_c {x y : Int32} (hu : 5000 ≤ fu) (h : CM b0 σ C D) (hR : ST (PH t) bi sp w C D A J) (hd : dsk A (K + 2104102)) (hg : A 35 18 = 1 → gsA A ≤ A 35 6 ∧ A 35 34 + 1 < 1000000 ∧ A 35 28 + 1 < 1000) (hun : un < 1000000000) (he : 8 + 36 * tcA A + rcA A ≤ e) (ho : 4 + 2 * tcA A ≤ o) (hH : HO A) :
    wp (FC b0) σ (m_X10_truncate b0 fu (b0 + 0) x y σ) (fun v τ => ∀ s, AZQ (PH t) b0 D K e o v τ (pubX A J un s (trY x y))) := by
  refine pubA_c (PH_good t) PH_ok (fun _ _ h => h) hu h hR hd hg hun he ho (fun B J' ρ sp' C' D' af c q d => ?_)
  clear he ho hg
  have hB := AF_HO af hH
  have z := af.2.1.1
  have L := c.lay
  have S := q.2.1
  have P := q.2.2.1
  have id : ∀ v : Int, QA (PH t) b0 D' J' K (.inl (iz v)) ρ (v, B) := fun v => QA_id (Nat.le_refl _) q c d z
  unfold J_X10_truncate_21
  rw [ckC_0 L, fileOf_c c.ca S.zm.2.2.2.2.2.2.2.2.1 x, cll_some]
  cases ex : hdA B x with
  | none =>
    show wp (FC b0) ρ (if (-9 : Int32) < 0 then _ else _) _
    rw [if_pos (by decide)]
    refine wp_ret ((FC_good b0).1 _) (fun s => ?_)
    have ey : trY x y B s = (-9, B) := by
      unfold trY
      rw [ex]
    rw [ey]
    exact id (-9)
  | some n =>
    obtain ⟨n1, n2⟩ := hd_HO hB ex
    have ey : ∀ s, trY x y B s = if y < 0 then (-9, B) else if 272384 < y.toNatClampNeg then (-7, B) else (0, szA B n y.toNatClampNeg) := fun s => by
      unfold trY
      rw [ex]
    show wp (FC b0) ρ (if nI n < 0 then _ else _) _
    rw [if_neg (neg_nI (by omega))]
    by_cases c0 : y < 0
    · have c0' : ¬ (0 : Int32) ≤ y := fun r => by
        have a := Int32.le_iff_toInt_le.mp r
        have b := Int32.lt_iff_toInt_lt.mp c0
        omega
      rw [if_neg c0']
      refine wp_ret ((FC_good b0).1 _) (fun s => ?_)
      rw [ey s, if_pos c0]
      exact id (-9)
    obtain ⟨m, hm, rfl⟩ := nI_of c0
    rw [if_pos (show (0 : Int32) ≤ nI m from (nI_leP (a := 0) (b := m) (by omega) hm).mpr (by omega))]
    by_cases cm : m ≤ 272384
    · rw [if_pos (show nI m ≤ (272384 : Int32) from (nI_leP (a := m) (b := 272384) hm (by omega)).mpr cm), ckC_0 L, osm_p (rfC_0_2 L), ckC_18 L]
      refine wp_bind (FC_good b0) (resize_c (fu := fu) c S.rk n1 cm (sz_le S n1) (by omega)) ?_
      intro _ ρ2 c2
      refine wp_ret ((FC_good b0).1 _) (fun s => ?_)
      obtain ⟨S2, P2⟩ := PH_sz (sz := m) S P n1 n2 cm
      have b1 := (nd_k S.ok n1).2.1
      rw [ey s, if_neg c0, nI_cl hm, if_neg (by omega)]
      exact QA_mem (v := 0) (Nat.le_refl _) q c2 S2 P2 (fun _ _ => rfl) (KP_sz n1 (by omega)).kr KC_re d z
    · rw [if_neg (show ¬ nI m ≤ (272384 : Int32) from fun r => cm ((nI_leP (a := m) (b := 272384) hm (by omega)).mp r))]
      refine wp_ret ((FC_good b0).1 _) (fun s => ?_)
      rw [ey s, if_neg c0, nI_cl hm, if_pos (by omega)]
      exact id (-7)
theorem isHeld_lp (hc : ∀ i, i < 16 → C 32 i = A 71 i) (h : CA b0 σ C) (hn : n < 64) : ∀ m k f, k + m = 16 → m < f → L_X10_isHeld_2 b0 fu f (b0 + 0) (nI n) (nI k) σ = some (nI (b2n (decide (sr (fun h => A 71 h == n + 1) k m < 16))), σ) := by
  have L := h.lay
  intro m
  induction m with
  | zero =>
    intro k f hk hf
    obtain ⟨f, rfl⟩ : ∃ g, f = g + 1 := ⟨f - 1, by omega⟩
    have e : k = 16 := by omega
    subst e
    unfold L_X10_isHeld_2
    rw [ltb_def, if_pos (show (16 : Int32) ≤ nI 16 by decide)]
    rfl
  | succ m ih =>
    intro k f hk hf
    obtain ⟨f, rfl⟩ : ∃ g, f = g + 1 := ⟨f - 1, by omega⟩
    have b := cb_32 h k
    unfold L_X10_isHeld_2
    rw [ltb_def, show (16 : Int32) = nI 16 from rfl, if_l (by omega) (by omega), if_neg (by omega), ckC_0 L, osm_p (rfC_0_9 L), ckC_32 L, ckI_n (by omega) (by omega), nI_cl (by omega), cd_32 h, ltb_def, ofi]
    have es : sr (fun h => A 71 h == n + 1) k (m + 1) = if A 71 k = n + 1 then k else sr (fun h => A 71 h == n + 1) (k + 1) m := by
      show (if (A 71 k == n + 1) = true then k else sr (fun h => A 71 h == n + 1) (k + 1) m) = _
      by_cases c : A 71 k = n + 1
      · rw [if_pos c, if_pos (by simpa using c)]
      · rw [if_neg c, if_neg (by simpa using c)]
    rw [es]
    by_cases c : A 71 k = n + 1
    · rw [if_pos (show nI (C 32 k) - 1 = nI n from (hd_eq b hn).mpr (by rw [hc k (by omega)]; exact c)), if_pos c, decide_eq_true (show k < 16 by omega)]
      rfl
    · rw [if_neg (show ¬ nI (C 32 k) - 1 = nI n from fun r => c (by rw [← hc k (by omega)]; exact (hd_eq b hn).mp r)), if_neg c]
      exact ih (k + 1) f (by omega) (by omega)
theorem isHeld_c (hc : ∀ i, i < 16 → C 32 i = A 71 i) (h : CA b0 σ C) (hn : n < 64) (hu : 100 ≤ fu) : m_X10_isHeld b0 fu (b0 + 0) (nI n) σ = some (nI (b2n (opA A n)), σ) := by
  unfold m_X10_isHeld
  have z0 : (0 : Int32) = nI 0 := rfl
  rw [z0, isHeld_lp (fu := fu) hc h hn 16 0 fu (by omega) (by omega)]
  exact grw_same
theorem close_c {x : Int32} (hu : 5000 ≤ fu) (h : CM b0 σ C D) (hR : ST (PH t) bi sp w C D A J) (hd : dsk A (K + 2104102)) (hg : A 35 18 = 1 → gsA A ≤ A 35 6 ∧ A 35 34 + 1 < 1000000 ∧ A 35 28 + 1 < 1000) (hun : un < 1000000000) (he : 8 + 36 * tcA A + rcA A ≤ e) (ho : 4 + 2 * tcA A ≤ o) (hH : HO A) :
    wp (FC b0) σ (m_X10_close b0 fu (b0 + 0) x σ) (fun v τ => ∀ s, AZQ (PH t) b0 D K e o v τ (pubX A J un s (clY x))) := by
  refine pubA_c (PH_good t) PH_ok (fun _ _ h => h) hu h hR hd hg hun he ho (fun B J' ρ sp' C' D' af c q d => ?_)
  clear he ho hg
  have hB := AF_HO af hH
  have z := af.2.1.1
  have L := c.lay
  have S := q.2.1
  unfold J_X10_close_54
  rw [ckC_0 L, fileOf_c c.ca S.zm.2.2.2.2.2.2.2.2.1 x, cll_some]
  cases ex : hdA B x with
  | none =>
    show wp (FC b0) ρ (if (0 : Int32) ≤ -9 then _ else _) _
    rw [if_neg (by decide)]
    refine wp_ret ((FC_good b0).1 _) (fun s => ?_)
    have ey : clY x B s = (-9, B) := by
      unfold clY
      rw [ex]
    rw [ey]
    exact QA_id (v := -9) (Nat.le_refl _) q c d z
  | some n =>
    obtain ⟨n1, n2⟩ := hd_HO hB ex
    obtain ⟨y, y16, rfl, y1, y2, y3⟩ := hd_some ex
    have ey : ∀ s, clY (nI y) B s = (0, mfA (up2 B 71 y 0) n) := fun s => by
      unfold clY
      rw [ex, y3]
    show wp (FC b0) ρ (if (0 : Int32) ≤ nI n then _ else _) _
    rw [if_pos (show (0 : Int32) ≤ nI n from (nI_leP (a := 0) (b := n) (by omega) (by omega)).mpr (by omega)), ckC_0 L, osm_p (rfC_0_9 L), ckC_32 L, ckI_n y16 (by omega), nI_cl (by omega)]
    have c1 : CM b0 (sI ρ (b0 + 32) y (-1)) (up2 C' 32 y 0) D' := CM_fix (o := 32) c rfl (show (-1 : Int32) = nI 0 - 1 by decide) (by decide)
    have q1 := RO_hdl (h := y) (v := 0) (PH_good t) PH_ok PH_ti q
    have S1 := q1.2.1
    have P1 := q1.2.2.1
    have L1 := c1.lay
    have z1 : up2 B 71 y 0 35 0 = 0 := by rw [up2_o (by decide)]; exact z
    have d1 : dsk (up2 B 71 y 0) K := dsk_cg d (fun q _ => up2_o (by decide)) (up2_rown (by decide)) (up2_rown (by decide))
    have k1 : nd (up2 B 71 y 0) n 0 = 1 := by
      unfold nd
      rw [up2_o (by decide)]
      exact n2
    have hF : FC b0 ρ (sI ρ (b0 + 32) y (-1)) := FC_sI c.rf (by omega)
    refine wp_from (FC_good b0) hF ?_
    simp only [ey]
    generalize up2 B 71 y 0 = E at *
    generalize up2 C' 32 y 0 = C1 at *
    generalize sI ρ (b0 + 32) y (-1) = ρ1 at *
    obtain ⟨k0, k2⟩ := hd_c S1.ok S1.mr n1
    obtain ⟨k2, -⟩ := k2 (by omega)
    have b2 := (nd_k S1.ok n1).2.2.1
    have keep : 0 < nd E n 2 ∨ opA E n = true → QA (PH t) b0 D' J' K (.inl (iz 0)) ρ1 (0, mfA E n) := fun r => by
      have : mfA E n = E := by
        unfold mfA
        rw [if_pos r]
      rw [this]
      exact QA_id (Nat.le_refl _) q1 c1 d1 z1
    rw [osm_p (rfC_0_2 L1), ckC_18 L1, names_c c1.ca n1, cll_some, k2]
    show wp (FC b0) ρ1 (if nI (nd E n 2) = nI 0 then _ else _) _
    rw [if_e (by omega) (by omega)]
    by_cases c2 : nd E n 2 = 0
    · rw [if_pos c2, ckC_0 L1, isHeld_c S1.zm.2.2.2.2.2.2.2.2.1 c1.ca n1 (by omega), cll_some]
      cases eo : opA E n with
      | true =>
        rw [if_neg (show ¬ nI (b2n true) = (0 : Int32) by decide)]
        exact wp_ret ((FC_good b0).1 _) (fun s => keep (Or.inr eo))
      | false =>
        rw [if_pos (show nI (b2n false) = (0 : Int32) by decide), ckC_0 L1, osm_p (rfC_0_2 L1), ckC_18 L1]
        refine wp_bind (FC_good b0) (discard_c (fu := fu) c1 S1.rk n1 (sz_le S1 n1) (by omega)) ?_
        intro _ ρ2 c3
        refine wp_ret ((FC_good b0).1 _) (fun s => ?_)
        obtain ⟨S3, P3, K3⟩ := dn_free S1 P1 n1 (Or.inl k1) c2
        have em : mfA E n = setN (if nd E n 0 = 1 then szA E n 0 else E) n 0 0 := by
          unfold mfA
          rw [if_neg (fun r => by rcases r with r | r; omega; rw [eo] at r; cases r)]
        rw [em]
        exact QA_mem (v := 0) (Nat.le_refl _) q1 c3 S3 P3 (fun _ _ => rfl) K3 KC_dis d1 z1
    · rw [if_neg c2]
      exact wp_ret ((FC_good b0).1 _) (fun s => keep (Or.inl (by omega)))
end TRN
