/-! ===== PURE: where a new name can be, in both ===== -/
def pnA (A : tS) : Int := if waA A 0 < 0 then waA A 0 else if fA A (waA A 0).toNat (fun i => A 62 (lsF A 0 + i)) (lsN A 0) < eAll A (waA A 0).toNat then -2 else if 28 < lsN A 0 then -7 else waA A 0
section PLN
variable {b0 fu : Nat} {σ τ : tM} {bi sp : Nat → Nat} {w : Nat → Nat × Nat} {C C' X : tS} {D D' : tD} {A B : tS} {J J' : tJ} {K n m k r t d l : Nat}
theorem fA_36 {nm : Nat → Nat} (h : B 36 = A 36) : fA B d nm l = fA A d nm l ∧ eAll B d = eAll A d := by
  unfold fA fP eAll eN eL eC ex hasA leafA pt nd
  rw [h]
  exact ⟨rfl, rfl⟩
theorem fA_le {nm : Nat → Nat} : fA A d nm l ≤ eAll A d := by
  have := (sr_le (fP A d nm l) (eAll A d) 0).2
  unfold fA
  omega
/-- a name that is too long is nowhere -/
theorem fA_long {nm : Nat → Nat} (ho : okT A) (hl : 28 < l) : fA A d nm l = eAll A d := by
  unfold fA
  exact sr_miss (fun k hk => by
    unfold fP
    have e : (eL A d k == l) = false := by
      have := (eZ_lt ho (r := hasA A d (k / 8) - 1) (k := k % 8) (by omega)).2.1
      have e2 : eL A d k = eZ A (hasA A d (k / 8) - 1) (k % 8) 1 := rfl
      have : eL A d k ≠ l := by omega
      simpa using this
    rw [e]
    simp)
theorem kf_wa {v s : Nat} : kf (wa1 A v s) d = fA A d (fun i => A (62 + v) (lsF A v + i)) (lsN A v) ∧ eAll (wa1 A v s) d = eAll A d := by
  unfold kf
  rw [wa1_53, (fA_36 (A := A) (wa1_36 A)).1, (fA_36 (A := A) (d := d) (nm := fun _ => 0) (l := 0) (wa1_36 A)).2]
  exact ⟨fA_cong (fun i hi => wa1_67 A hi), rfl⟩
theorem path_cell {v : Nat} (hv : v < 2) (T : TP C A) : C (28 + 2 * v) 1 = A 64 v ∧ C (28 + 2 * v) 2 = lsF A v ∧ C (28 + 2 * v) 3 = lsN A v ∧ ∀ j, C (29 + 2 * v) j = A (62 + v) j := by
  have : v = 0 ∨ v = 1 := by omega
  rcases this with rfl | rfl
  · exact T.2.2.1
  · exact T.2.2.2
theorem findLast_c {v : Nat} (hv : v < 2) (hu : 10000 ≤ fu) (h : CM b0 σ C D) (S : SR bi w C A) (P : PH t w A) (T : TP C A) (hP : patOk A) (hd : d < 64) (h2 : nd A d 0 = 2) (h1 : 1 ≤ lsN A v) : m_X8_findLast b0 fu (b0 + 18) (nI d) (b0 + (28 + 2 * v)) σ = some (if fA A d (fun i => A (62 + v) (lsF A v + i)) (lsN A v) = eAll A d then -1 else nI (fA A d (fun i => A (62 + v) (lsF A v + i)) (lsN A v)), σ) := by
  obtain ⟨t1, t2, t3, t4⟩ := path_cell hv T
  have L := h.lay
  have pt : isPT (28 + 2 * v) (29 + 2 * v) := by
    have : v = 0 ∨ v = 1 := by omega
    rcases this with rfl | rfl
    · exact Or.inl ⟨rfl, rfl⟩
    · exact Or.inr ⟨rfl, rfl⟩
  have iX : isX (29 + 2 * v) 120 := by
    have : v = 0 ∨ v = 1 := by omega
    rcases this with rfl | rfl
    · exact Or.inr (Or.inl ⟨rfl, rfl⟩)
    · exact Or.inr (Or.inr ⟨rfl, rfl⟩)
  obtain ⟨k1, k2, k3, k4, k5, -⟩ := pt_k pt h.ca
  obtain ⟨ea, ef⟩ := fn_eq (o := 29 + 2 * v) (st := lsF A v) (l := lsN A v) (VW_of S P.di) hd h2 h1
  have le := ls_le A v
  have pl := (hP v hv).1
  have ec : (fun i => C (29 + 2 * v) (lsF A v + i)) = fun i => A (62 + v) (lsF A v + i) := funext (fun i => t4 _)
  rw [ec] at ef
  have fe : m_X8_find b0 fu (b0 + 18) (nI d) (b0 + (29 + 2 * v)) (nI (lsF A v)) (nI (lsN A v)) σ = _ := find_c h.ca S.rk.1 iX hd (fun i hi => by rw [t4]; have := (hP v hv).2 (lsF A v + i) (by omega); omega) (by omega) (sz_le S hd) hu
  unfold m_X8_findLast
  rw [ckO_p k1 ⟨by omega, by have := L.1; omega⟩, osm_p k2, ckC_18 L, k4, k5, t2, t3, fe, cll_some, ea, ef]
  have : (if lsN A v < 1 ∨ 28 < lsN A v ∨ fA A d (fun i => A (62 + v) (lsF A v + i)) (lsN A v) = eAll A d then (-1 : Int32) else nI (fA A d (fun i => A (62 + v) (lsF A v + i)) (lsN A v))) = if fA A d (fun i => A (62 + v) (lsF A v + i)) (lsN A v) = eAll A d then -1 else nI (fA A d (fun i => A (62 + v) (lsF A v + i)) (lsN A v)) := by
    by_cases c : 28 < lsN A v
    · rw [if_pos (Or.inr (Or.inl c)), if_pos (fA_long S.ok c)]
    · by_cases c2 : fA A d (fun i => A (62 + v) (lsF A v + i)) (lsN A v) = eAll A d
      · rw [if_pos (Or.inr (Or.inr c2)), if_pos c2]
      · rw [if_neg (fun q => by rcases q with q | q | q; omega; exact c q; exact c2 q), if_neg c2]
  rw [this]
  exact grw_same
theorem wa_ls {v : Nat} (h : 0 ≤ waA A v) : 1 ≤ lsN A v := by
  unfold waA at h
  by_cases c : lsN A v = 0
  · have dt : dts A v = true := by
      unfold dts
      exact decide_eq_true (Or.inl c)
    split at h
    · omega
    · first
        | omega
        | (rw [if_pos dt] at h; omega)
  · omega
theorem placeForNew_c (hu : 10000 ≤ fu) (h : CM b0 σ C D) (S : SR bi w C A) (P : PH t w A) (T : TP C A) (hP : patOk A) : wp (FC b0) σ (m_X10_placeForNew b0 fu (b0 + 0) σ) (fun v τ => v = iz (pnA A) ∧ ∃ C', CM b0 τ C' D ∧ ∀ p, p ≠ 24 → p ≠ 25 → C' p = C p) := by
  have L := h.lay
  refine wp_grw (FC_good b0) ?_
  rw [ckC_0 L, osm_p (rfC_0_5 L), osm_p (rfC_0_7 L), ckC_24 L]
  refine wp_bind (FC_good b0) (walkAhead_c (fu := fu) (w := 0) (by omega) h S.rk.1 (VW_of S P.di) T hP S.ok hu) ?_
  rintro v ρ ⟨e1, C2, q1, q2⟩
  obtain ⟨a1, a2, a3⟩ := wa_bd (w := 0) S.ok
  have ge := iz_ge a1 a2
  subst e1
  unfold pnA J_X10_placeForNew_54
  by_cases c : waA A 0 < 0
  · rw [if_neg (fun q => by have := ge.mp q; omega), if_pos c]
    exact wp_ret ((FC_good b0).1 _) ⟨rfl, C2, q1, q2⟩
  · rw [if_pos (ge.mpr (by omega)), if_neg c]
    obtain ⟨d, hy⟩ : ∃ d : Nat, waA A 0 = (d : Int) := ⟨(waA A 0).toNat, by omega⟩
    have d1 : d < 64 := by omega
    have d2 := a3 (by omega)
    have l1 := wa_ls (A := A) (v := 0) (by omega)
    rw [hy, Int.toNat_natCast] at d2 ⊢
    have L2 := q1.lay
    have S2 : SR bi w C2 A := SR_c S (fun p hp => q2 p (by omega) (by omega))
    have T2 : TP C2 A := TP_all T (fun p hp => q2 p (by omega) (by omega)) (fun _ _ => rfl) rfl
    have pl := (hP 0 (by omega)).1
    have le := ls_le A 0
    have fl := findLast_c (fu := fu) (v := 0) (by omega) hu q1 S2 P T2 hP d1 d2 l1
    have fb : fA A d (fun i => A (62 + 0) (lsF A 0 + i)) (lsN A 0) ≤ eAll A d := fA_le
    have eb : eAll A d ≤ 8512 := by
      have := (nd_k S.ok d1).2.1
      unfold eAll
      omega
    have c28 : C2 28 3 = lsN A 0 := T2.2.2.1.2.2.1
    rw [iz_n, ckC_0 L2, osm_p (rfC_0_2 L2), osm_p (rfC_0_7 L2), ckC_18 L2]
    have fl : m_X8_findLast b0 fu (b0 + 18) (nI d) (b0 + 28) ρ = _ := fl
    rw [fl, cll_some]
    have e62 : (fun i => A (62 + 0) (lsF A 0 + i)) = fun i => A 62 (lsF A 0 + i) := rfl
    rw [e62] at fb ⊢
    generalize fA A d (fun i => A 62 (lsF A 0 + i)) (lsN A 0) = F at *
    by_cases cF : F = eAll A d
    · rw [if_pos cF, if_pos (show (-1 : Int32) < 0 by decide), ckC_0 L2, osm_p (rfC_0_7 L2), ckC_28 L2, cf_28_3 q1.ca, c28]
      show wp (FC b0) ρ (if nI (lsN A 0) ≤ nI 28 then _ else _) _
      rw [if_l (by omega) (by omega)]
      by_cases c8 : lsN A 0 ≤ 28
      · rw [if_pos c8]
        refine wp_ret ((FC_good b0).1 _) ⟨?_, C2, q1, q2⟩
        rw [if_neg (show ¬ F < eAll A d by omega), if_neg (show ¬ 28 < lsN A 0 by omega), iz_n]
      · rw [if_neg c8]
        refine wp_ret ((FC_good b0).1 _) ⟨?_, C2, q1, q2⟩
        rw [if_neg (show ¬ F < eAll A d by omega), if_pos (show 28 < lsN A 0 by omega)]
        rfl
    · rw [if_neg cF, if_neg (neg_nI (by omega))]
      refine wp_ret ((FC_good b0).1 _) ⟨?_, C2, q1, q2⟩
      rw [if_pos (show F < eAll A d by omega)]
      rfl
end PLN
