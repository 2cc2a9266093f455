/-! ===== PURE: the entry of a path's last name, in both ===== -/
/-- the entry of the last name; why there is none -/
def elA (A : tS) (v : Nat) : Int := if waA A v < 0 then waA A v else if 28 < lsN A v then -7 else if fA A (waA A v).toNat (fun i => A (62 + v) (lsF A v + i)) (lsN A v) = eAll A (waA A v).toNat then -1 else (fA A (waA A v).toNat (fun i => A (62 + v) (lsF A v + i)) (lsN A v) : Nat)
section EOL
variable {b0 fu : Nat} {σ τ : tM} {bi sp : Nat → Nat} {w : Nat → Nat × Nat} {C C' X : tS} {D D' : tD} {A B : tS} {K n m k r t d l v : Nat}
theorem iz_16 (x : Nat) : iz ((x : Int) - 16) = nI x - 16 := by
  unfold iz
  rw [Int32.ofInt_sub]
  rfl
theorem iz_x {z : Int} (h : -10 ≤ z) : nI (z + 16).toNat - 16 = iz z := by
  rw [← iz_16]
  congr 1
  omega
/-- what it leaves of the class's cells -/
def elC (C C' A : tS) (v : Nat) : Prop := (∀ p, p ≠ 24 → p ≠ 25 → p ≠ 28 + 2 * v → C' p = C p) ∧ (∀ j, j ≠ 4 → C' (28 + 2 * v) j = C (28 + 2 * v) j) ∧ C' (28 + 2 * v) 4 = (waA A v + 16).toNat
theorem entryOfLast_c (hv : v < 2) (hu : 10000 ≤ fu) (h : CM b0 σ C D) (S : SR bi w C A) (P : PH t w A) (T : TP C A) (hP : patOk A) : wp (FC b0) σ (m_X10_entryOfLast b0 fu (b0 + 0) (b0 + (28 + 2 * v)) σ) (fun x τ => x = iz (elA A v) ∧ ∃ C', CM b0 τ C' D ∧ elC C C' A v) := by
  have L := h.lay
  refine wp_grw (FC_good b0) ?_
  rw [ckC_0 L, osm_p (rfC_0_5 L), ckC_24 L]
  refine wp_bind (FC_good b0) (walkAhead_c (fu := fu) (w := v) hv h S.rk.1 (VW_of S P.di) T hP S.ok hu) ?_
  rintro y ρ ⟨e1, C2, q1, q2⟩
  obtain ⟨a1, a2, a3⟩ := wa_bd (w := v) S.ok
  have ge := iz_ge a1 a2
  subst e1
  have pt : isPT (28 + 2 * v) (29 + 2 * v) := by
    have : v = 0 ∨ v = 1 := by omega
    rcases this with rfl | rfl
    · exact Or.inl ⟨rfl, rfl⟩
    · exact Or.inr ⟨rfl, rfl⟩
  obtain ⟨k1, k2, k3, k4, k5, -⟩ := pt_k pt q1.ca
  have L2 := q1.lay
  have isc : isC (28 + 2 * v) 4 = true := by
    have : v = 0 ∨ v = 1 := by omega
    rcases this with rfl | rfl <;> rfl
  have dec : iz (waA A v) = decC (28 + 2 * v) 4 (waA A v + 16).toNat := by
    have : v = 0 ∨ v = 1 := by omega
    rcases this with rfl | rfl
    · exact (iz_x a1).symm
    · exact (iz_x a1).symm
  have bnd : (waA A v + 16).toNat < bndC (28 + 2 * v) := by
    have : v = 0 ∨ v = 1 := by omega
    rcases this with rfl | rfl
    · show _ < 2147483648
      omega
    · show _ < 2147483648
      omega
  have c1 : CM b0 (sI ρ (b0 + (28 + 2 * v)) 4 (iz (waA A v))) (up2 C2 (28 + 2 * v) 4 (waA A v + 16).toNat) D := CM_fix q1 isc dec bnd
  have hF : FC b0 ρ (sI ρ (b0 + (28 + 2 * v)) 4 (iz (waA A v))) := FC_sI q1.rf (by omega)
  have r4 : tI (sI ρ (b0 + (28 + 2 * v)) 4 (iz (waA A v))) (b0 + (28 + 2 * v)) 4 = iz (waA A v) := by
    rw [c1.ca.2.1 (28 + 2 * v) 4 isc, up2_s, dec]
  have el : elC C (up2 C2 (28 + 2 * v) 4 (waA A v + 16).toNat) A v := ⟨fun p x1 x2 x3 => by rw [up2_rown x3, q2 p x1 x2], fun j hj => by rw [up2_j hj, q2 _ (by omega) (by omega)], up2_s _ _ _ _⟩
  obtain ⟨k1', k2', k3', k4', k5', -⟩ := pt_k pt c1.ca
  have L3 := c1.lay
  rw [ckO_p k1 ⟨by omega, by have := L2.1; omega⟩, r4, k5']
  refine wp_from (FC_good b0) hF ?_
  generalize sI ρ (b0 + (28 + 2 * v)) 4 (iz (waA A v)) = ρ1 at *
  have S3 : SR bi w (up2 C2 (28 + 2 * v) 4 (waA A v + 16).toNat) A := SR_c S (fun p hp => el.1 p (by omega) (by omega) (by omega))
  have T3 : TP (up2 C2 (28 + 2 * v) 4 (waA A v + 16).toNat) A := by
    have o : ∀ p, p ≠ 24 → p ≠ 25 → p ≠ 28 + 2 * v → up2 C2 (28 + 2 * v) 4 (waA A v + 16).toNat p = C p := el.1
    have o2 := el.2.1
    obtain ⟨t1, t2, t3, t4⟩ := T
    have : v = 0 ∨ v = 1 := by omega
    rcases this with rfl | rfl
    · exact ⟨by rw [o 26 (by omega) (by omega) (by omega)]; exact t1, by rw [o 27 (by omega) (by omega) (by omega)]; exact t2, ⟨(o2 1 (by omega)).trans t3.1, (o2 2 (by omega)).trans t3.2.1, (o2 3 (by omega)).trans t3.2.2.1, by rw [o 29 (by omega) (by omega) (by omega)]; exact t3.2.2.2⟩, by rw [o 30 (by omega) (by omega) (by omega), o 31 (by omega) (by omega) (by omega)]; exact t4⟩
    · exact ⟨by rw [o 26 (by omega) (by omega) (by omega)]; exact t1, by rw [o 27 (by omega) (by omega) (by omega)]; exact t2, by rw [o 28 (by omega) (by omega) (by omega), o 29 (by omega) (by omega) (by omega)]; exact t3, ⟨(o2 1 (by omega)).trans t4.1, (o2 2 (by omega)).trans t4.2.1, (o2 3 (by omega)).trans t4.2.2.1, by rw [o 31 (by omega) (by omega) (by omega)]; exact t4.2.2.2⟩⟩
  have c3 := (path_cell hv T3).2.2.1
  rw [c3]
  generalize up2 C2 (28 + 2 * v) 4 (waA A v + 16).toNat = C3 at *
  have pl := (hP v hv).1
  have le := ls_le A v
  unfold elA J_X10_entryOfLast_58
  by_cases c : waA A v < 0
  · rw [if_neg (fun q => by have := ge.mp q; omega), if_pos c]
    exact wp_ret ((FC_good b0).1 _) ⟨rfl, C3, c1, el⟩
  · rw [if_pos (ge.mpr (by omega)), if_neg c]
    obtain ⟨d, hy⟩ : ∃ d : Nat, waA A v = (d : Int) := ⟨(waA A v).toNat, by omega⟩
    have d1 : d < 64 := by omega
    have d2 := a3 (by omega)
    have l1 := wa_ls (A := A) (v := v) (by omega)
    rw [hy, Int.toNat_natCast] at d2 ⊢
    show wp (FC b0) ρ1 (if nI (lsN A v) ≤ nI 28 then _ else _) _
    rw [if_l (by omega) (by omega)]
    by_cases c8 : lsN A v ≤ 28
    · have fl := findLast_c (fu := fu) (v := v) hv hu c1 S3 P T3 hP d1 d2 l1
      have fb : fA A d (fun i => A (62 + v) (lsF A v + i)) (lsN A v) ≤ eAll A d := fA_le
      have eb : eAll A d ≤ 8512 := by
        have := (nd_k S.ok d1).2.1
        unfold eAll
        omega
      rw [if_pos c8, ckC_0 L3, osm_p (rfC_0_2 L3), ckC_18 L3, iz_n, fl, cll_some]
      generalize fA A d (fun i => A (62 + v) (lsF A v + i)) (lsN A v) = F at *
      by_cases cF : F = eAll A d
      · rw [if_pos cF, if_neg (show ¬ (0 : Int32) ≤ -1 by decide)]
        refine wp_ret ((FC_good b0).1 _) ⟨?_, C3, c1, el⟩
        rw [if_neg (show ¬ 28 < lsN A v by omega), if_pos cF]
        rfl
      · rw [if_neg cF, if_pos (show (0 : Int32) ≤ nI F from (nI_leP (a := 0) (b := F) (by omega) (by omega)).mpr (by omega))]
        refine wp_ret ((FC_good b0).1 _) ⟨?_, C3, c1, el⟩
        rw [if_neg (show ¬ 28 < lsN A v by omega), if_neg cF, iz_n]
    · rw [if_neg c8]
      refine wp_ret ((FC_good b0).1 _) ⟨?_, C3, c1, el⟩
      rw [if_pos (show 28 < lsN A v by omega)]
      rfl
end EOL
