/-! ===== PURE: the reference's public methods: blockOf, byteAt ===== -/
def bkY (x w : Int32) (A : tS) (_ : Nat) : Int × tS := match hdA A x with
  | none => (-9, A)
  | some n => if w < 0 ∨ (1063 : Int32) < w then (-9, A) else (((if hasA A n w.toNatClampNeg = 0 then 0 else 34 + A 35 6 + (hasA A n w.toNatClampNeg - 1) : Nat) : Int), A)
def boA (A : tS) (n p : Nat) : Nat := if hasA A n (p / 256) = 0 then 0 else A 47 (256 * (hasA A n (p / 256) - 1) + p % 256)
def baY (x w : Int32) (A : tS) (_ : Nat) : Int × tS := match hdA A x with
  | none => (-9, A)
  | some n => if w < 0 ∨ nd A n 1 ≤ w.toNatClampNeg then (-9, A) else (((boA A n w.toNatClampNeg : Nat) : Int), A)
section AT
variable {b0 fu : Nat} {σ τ : tM} {A B U : tS} {N N' K K' : Nat} {J : tJ}
theorem blockOf_wp {x w : Int32} (h : RM b0 J σ A N) (hb : A 35 18 ≠ 0 → ∀ n, hdA (up2 A 35 0 0) x = some n → n < 64) : wp (FR b0) σ (m_X12_blockOf b0 fu (b0 + 35) x w σ) (PU b0 N A J (bkY x w)) := by
  refine wp_grw (FR_good b0) (pubU_wp h (Nat.le_refl _) (fun ρ e q => ?_))
  have hh := hb e
  clear hb
  generalize up2 A 35 0 0 = A at *
  have L := q.ra.lay
  unfold J_X12_blockOf_28 J_X12_blockOf_58
  rw [isHandle_eq q.ra, cll_some]
  cases eh : hdA A x with
  | none =>
    have eY : bkY x w A 0 = (-9, A) := by unfold bkY; rw [eh]
    rw [if_pos (show nI (b2n (none : Option Nat).isSome) = 0 by decide)]
    exact wp_ret ((FR_good b0).1 _) ⟨0, by rw [eY]; rfl, by rw [eY]; exact q⟩
  | some n =>
    have n64 := hh n eh
    have eY : bkY x w A 0 = if w < 0 ∨ (1063 : Int32) < w then (-9, A) else (((if hasA A n w.toNatClampNeg = 0 then 0 else 34 + A 35 6 + (hasA A n w.toNatClampNeg - 1) : Nat) : Int), A) := by unfold bkY; rw [eh]
    obtain ⟨y, y16, rfl, y1, y2, y3⟩ := hd_some eh
    rw [if_neg (show ¬ nI (b2n (some n).isSome) = 0 by show ¬ nI 1 = 0; decide)]
    by_cases c0 : w < 0
    · rw [if_pos (Or.inl c0)] at eY
      rw [if_pos c0]
      exact wp_ret ((FR_good b0).1 _) ⟨0, by rw [eY]; rfl, by rw [eY]; exact q⟩
    · rw [if_neg c0]
      obtain ⟨m, hm, rfl⟩ := nI_of c0
      by_cases c6 : m ≤ 1063
      · have n6 : ¬ (nI m < 0 ∨ (1063 : Int32) < nI m) := fun r => by
          rcases r with r | r
          · exact c0 r
          · have := (nI_ltP (a := 1063) (b := m) (by omega) hm).mp r
            omega
        have l1 := has_le q.ok (n := n) (i := m) n64 (by omega)
        rw [if_neg n6, nI_cl hm] at eY
        rw [if_pos (show nI m ≤ 1063 from (nI_leP (a := m) (b := 1063) hm (by omega)).mpr c6), ckR_35 L, osm_p (rfR_35_58 L), ckR_71 L, ckI_n y16 (by omega), y3, hd_rd q.ra y1 y2, has_eq q.ra q.ok n64 (by omega), cll_some]
        show wp (FR b0) ρ (if nI (hasA A n m) = nI 0 then _ else _) _
        rw [if_e (by omega) (by omega)]
        by_cases z : hasA A n m = 0
        · rw [if_pos z] at eY
          rw [if_pos z]
          exact wp_ret ((FR_good b0).1 _) ⟨0, by rw [eY]; rfl, by rw [eY]; exact q⟩
        · rw [if_neg z] at eY
          rw [if_neg z, ckR_35 L, show nI (hasA A n m) - 1 = nI (hasA A n m - 1) from nI_sb (b := 1) (by omega), numberOf_eq q.ra, cll_some]
          exact wp_ret ((FR_good b0).1 _) ⟨0, by rw [eY]; exact (iz_n _).symm, by rw [eY]; exact q⟩
      · have n6 : nI m < 0 ∨ (1063 : Int32) < nI m := Or.inr ((nI_ltP (a := 1063) (b := m) (by omega) hm).mpr (by omega))
        rw [if_pos n6] at eY
        rw [if_neg (show ¬ nI m ≤ 1063 from fun r => c6 ((nI_leP (a := m) (b := 1063) hm (by omega)).mp r))]
        exact wp_ret ((FR_good b0).1 _) ⟨0, by rw [eY]; rfl, by rw [eY]; exact q⟩
set_option maxRecDepth 10000 in
theorem sb_255 {x : Nat} (h : x < 256) : sb x &&& 255 = nI x := by
  have : ∀ y : Fin 256, sb y.val &&& 255 = nI y.val := by decide
  exact this ⟨x, h⟩
theorem bd_47' (h : RA b0 σ A) (j : Nat) : A 47 j < 256 := h.2.2 47 j
theorem byteOf_eq (h : RA b0 σ A) (hT : okT A) {n p : Nat} (hn : n < 64) (hp : p < 272384) : m_X12_byteOf b0 fu (b0 + 35) (nI n) (nI p) σ = some (nI (boA A n p), σ) := by
  have L := h.lay
  have l1 := has_le hT (n := n) (i := p / 256) hn (by omega)
  have c1 : p % 256 < 256 := Nat.mod_lt _ (by omega)
  have e2 : nI p / (256 : Int32) = nI (p / 256) := nI_dv (d := 256) (by omega) (by omega) (by omega)
  have e3 : nI (p / 256) * (256 : Int32) = nI (p / 256 * 256) := pk_mul _ _
  have e4 : nI p - nI (p / 256 * 256) = nI (p % 256) := by
    rw [nI_sb (by omega)]
    congr 1
    omega
  unfold m_X12_byteOf J_X12_byteOf_41 boA
  rw [ckR_35 L, e2, has_eq h hT hn (by omega), cll_some, ltb_def, e3, e4]
  by_cases z : hasA A n (p / 256) = 0
  · rw [if_pos z, z, if_neg (show ¬ (0 : Int32) ≤ nI 0 - 1 by decide)]
    exact grw_same
  · have e5 : nI (hasA A n (p / 256)) - (1 : Int32) = nI (hasA A n (p / 256) - 1) := nI_sb (b := 1) (by omega)
    have e6 : (256 : Int32) * nI (hasA A n (p / 256) - 1) + nI (p % 256) = nI (256 * (hasA A n (p / 256) - 1) + p % 256) := by
      rw [show (256 : Int32) * nI (hasA A n (p / 256) - 1) = nI (256 * (hasA A n (p / 256) - 1)) from pk_mul _ _, nI_add]
    rw [if_neg z, e5, if_pos (Int32.not_lt.mp (nI_pos (by omega))), ckR_35 L, osm_p (rfR_35_22 L), ckR_47 L, e6, ckI_n (by omega) (by omega), nI_cl (by omega), rd_47 h, sb_255 (bd_47' h _)]
    exact grw_same
theorem byteAt_wp {x w : Int32} (h : RM b0 J σ A N) (hb : A 35 18 ≠ 0 → ∀ n, hdA (up2 A 35 0 0) x = some n → n < 64) : wp (FR b0) σ (m_X12_byteAt b0 fu (b0 + 35) x w σ) (PU b0 N A J (baY x w)) := by
  refine wp_grw (FR_good b0) (pubU_wp h (Nat.le_refl _) (fun ρ e q => ?_))
  have hh := hb e
  clear hb
  generalize up2 A 35 0 0 = A at *
  have L := q.ra.lay
  unfold J_X12_byteAt_36
  rw [isHandle_eq q.ra, cll_some]
  cases eh : hdA A x with
  | none =>
    have eY : baY x w A 0 = (-9, A) := by unfold baY; rw [eh]
    rw [if_pos (show nI (b2n (none : Option Nat).isSome) = 0 by decide)]
    exact wp_ret ((FR_good b0).1 _) ⟨0, by rw [eY]; rfl, by rw [eY]; exact q⟩
  | some n =>
    have n64 := hh n eh
    have eY : baY x w A 0 = if w < 0 ∨ nd A n 1 ≤ w.toNatClampNeg then (-9, A) else (((boA A n w.toNatClampNeg : Nat) : Int), A) := by unfold baY; rw [eh]
    obtain ⟨y, y16, rfl, y1, y2, y3⟩ := hd_some eh
    rw [if_neg (show ¬ nI (b2n (some n).isSome) = 0 by show ¬ nI 1 = 0; decide)]
    by_cases c0 : w < 0
    · rw [if_pos (Or.inl c0)] at eY
      rw [if_pos c0]
      exact wp_ret ((FR_good b0).1 _) ⟨0, by rw [eY]; rfl, by rw [eY]; exact q⟩
    · obtain ⟨m, hm, rfl⟩ := nI_of c0
      have hs : nd A n 1 < 272385 := sz_lt q.ok n64
      rw [nI_cl hm] at eY
      rw [if_neg c0, ckR_35 L, osm_p (rfR_35_58 L), ckR_71 L, ckI_n y16 (by omega), y3, hd_rd q.ra y1 y2]
      show wp (FR b0) ρ (cll (m_X12_node b0 fu (b0 + 35) (nI n) (nI 1) ρ) (fun v4 ρ5 => if nI m < v4 then _ else _)) _
      rw [node_nd q.ra n64 (by omega), cll_some, if_t hm (by omega)]
      by_cases c2 : m < nd A n 1
      · rw [if_neg (fun r => by rcases r with r | r; exact c0 r; omega)] at eY
        rw [if_pos c2, ckR_35 L, osm_p (rfR_35_58 L), ckR_71 L, ckI_n y16 (by omega), hd_rd q.ra y1 y2, byteOf_eq q.ra q.ok n64 (by omega), cll_some]
        exact wp_ret ((FR_good b0).1 _) ⟨0, by rw [eY]; exact (iz_n _).symm, by rw [eY]; exact q⟩
      · rw [if_pos (Or.inr (by omega))] at eY
        rw [if_neg c2]
        exact wp_ret ((FR_good b0).1 _) ⟨0, by rw [eY]; rfl, by rw [eY]; exact q⟩
end AT
