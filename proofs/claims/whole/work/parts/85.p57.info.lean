/-! ===== PURE: the reference's public methods: info, infoOf, textAt, blockOf ===== -/
def inY (w : Int32) (fo : Bool) (A : tS) (s : Nat) : Int × tS :=
  if w < 0 ∨ (6 : Int32) < w then (-9, A) else if wtA A 0 fo < 0 then (wtA A 0 fo, up2 A 35 51 s) else ((tdA A (wtA A 0 fo).toNat w.toNatClampNeg : Nat), up2 A 35 51 s)
def ioY (x w : Int32) (A : tS) (_ : Nat) : Int × tS := match hdA A x with
  | none => (-9, A)
  | some n => if w < 0 ∨ (6 : Int32) < w then (-9, A) else ((tdA A n w.toNatClampNeg : Nat), A)
def txY (x : Int32) (A : tS) (s : Nat) : Int × tS :=
  if wtA A 0 false < 0 then (wtA A 0 false, up2 A 35 51 s) else if nd A (wtA A 0 false).toNat 0 ≠ 3 then (-9, up2 A 35 51 s)
  else if x < 0 ∨ nd A (wtA A 0 false).toNat 4 ≤ x.toNatClampNeg then (-1, up2 A 35 51 s) else ((nd A (wtA A 0 false).toNat (5 + x.toNatClampNeg) : Nat), up2 A 35 51 s)
section IN
variable {b0 fu : Nat} {σ τ : tM} {A B U : tS} {N N' K K' : Nat} {J : tJ}
theorem pubV_wp {k : tM → Option (Int32 × tM)} {f : tS → Nat → Int × tS} (h : RM b0 J σ A N) (hN : N ≤ N')
    (hk : ∀ ρ, A 35 18 ≠ 0 → RM b0 J ρ (up2 A 35 0 0) N → wp (FR b0) ρ (k ρ) (fun v τ => ∃ s, v = iz (f (up2 A 35 0 0) s).1 ∧ RM b0 J τ (f (up2 A 35 0 0) s).2 N')) :
    wp (FR b0) σ (ckO b0 σ (b0 + 35) 11 (cly (m_X12_up b0 fu (b0 + 35) (sI σ (b0 + 35) 0 0)) (fun _ ρ4 => k ρ4) (fun ρ12 => ckO b0 ρ12 (b0 + 35) 11 (cll (m_X12_off b0 fu (b0 + 35) ρ12) (fun v15 ρ16 => some (v15, ρ16)))))) (PU b0 N' A J f) := by
  have L := h.ra.lay
  rw [ckR_35 L]
  have h1 : RM b0 J (sI σ (b0 + 35) 0 0) (up2 A 35 0 0) N := RM_fix (x := 0) h rfl (by decide) rfl (by decide)
  have hup := up_wp (fu := fu) h1
  rw [up2_j (show (18 : Nat) ≠ 0 by decide)] at hup
  unfold PU pubU
  by_cases e : A 35 18 = 0
  · simp only [if_pos e] at hup ⊢
    refine wp_from (FR_good b0) (FR_sI (refO_f 35 (by omega) (by omega))) (wp_cly (FR_good b0) hup ?_ ?_)
    · intro v ρ q
      exact absurd q.1 (fun e => by cases e)
    · intro ρ q
      rw [ckR_35 q.2.ra.lay]
      refine wp_bind (FR_good b0) (off_wp (fu := fu) q.2) ?_
      intro v ρ2 ⟨e1, q3⟩
      exact wp_ret ((FR_good b0).1 _) ⟨0, e1, RM_le q3 hN⟩
  · simp only [if_neg e] at hup ⊢
    refine wp_from (FR_good b0) (FR_sI (refO_f 35 (by omega) (by omega))) (wp_cly (FR_good b0) hup ?_ ?_)
    · intro v ρ q
      exact hk ρ e q.2
    · intro ρ q
      exact absurd q.1 (fun e => by cases e)
theorem td_36 {X Y : tS} (h : X 36 = Y 36) : tdA X = tdA Y := by
  obtain ⟨o1, o2, o3, o4, o5, o6, o7, o8⟩ := on36 h
  funext n w
  unfold tdA td4 td5 td6
  rw [o1, o4, o5, o6, h]
theorem bdk_51 {s : Nat} (h : bdOk A) : bdOk (up2 A 35 51 s) := by
  have g36 := on36 (A := up2 A 35 51 s) (B := A) (up2_rown (by decide))
  refine ⟨fun v hv => ?_, fun d hd q => ?_, ?_⟩
  · rw [up2_rown (by decide), up2_rown (by omega)]
    exact h.1 v hv
  · rw [g36.1] at q
    have := h.2.1 d hd q
    unfold dirOk at this ⊢
    rw [g36.1, g36.2.2.2.1]
    exact this
  · rw [up2_j (by decide)]
    exact h.2.2
theorem info_wp {w : Int32} {fo : Bool} (h : RM b0 J σ A N) (hb : A 35 18 ≠ 0 → bdOk (up2 A 35 0 0)) (hu : 10000 ≤ fu) : wp (FR b0) σ (m_X12_info b0 fu (b0 + 35) w (nI (b2n fo)) σ) (PU b0 N A J (inY w fo)) := by
  refine wp_grw (FR_good b0) (pubV_wp h (Nat.le_refl _) (fun ρ e q => ?_))
  have hb := hb e
  generalize up2 A 35 0 0 = A at *
  unfold J_X12_info_19 J_X12_info_43
  by_cases c0 : w < 0
  · have eY : inY w fo A 0 = (-9, A) := if_pos (Or.inl c0)
    rw [if_pos c0]
    exact wp_ret ((FR_good b0).1 _) ⟨0, by rw [eY]; rfl, by rw [eY]; exact q⟩
  · rw [if_neg c0]
    obtain ⟨m, hm, rfl⟩ := nI_of c0
    by_cases c6 : m ≤ 6
    · have n6 : ¬ (nI m < 0 ∨ (6 : Int32) < nI m) := fun r => by
        rcases r with r | r
        · exact c0 r
        · have := (nI_ltP (a := 6) (b := m) (by omega) hm).mp r
          omega
      rw [if_pos (show nI m ≤ 6 from (nI_leP (a := m) (b := 6) hm (by omega)).mpr c6), ckR_35 q.ra.lay]
      refine wp_bind (FR_good b0) (walkTo_wp (fu := fu) (w := 0) q (by omega) hb.1 hb.2.1 hu fo) ?_
      intro v ρ2 ⟨e1, s, h2⟩
      have e1 : v = iz (wtA A 0 fo) := e1
      obtain ⟨a1, a2⟩ := wt_bd (w := 0) (fo := fo) q.ok
      have ge := iz_ge a1 a2
      have g36 := on36 (A := up2 A 35 51 s) (B := A) (up2_rown (by decide))
      subst e1
      by_cases c : wtA A 0 fo < 0
      · have eY : inY (nI m) fo A s = (wtA A 0 fo, up2 A 35 51 s) := by unfold inY; rw [if_neg n6, if_pos c]
        rw [if_neg (fun q => by have := ge.mp q; omega)]
        exact wp_ret ((FR_good b0).1 _) ⟨s, by rw [eY], by rw [eY]; exact h2⟩
      · rw [if_pos (ge.mpr (by omega))]
        obtain ⟨x, hx⟩ : ∃ x : Nat, wtA A 0 fo = (x : Int) := ⟨(wtA A 0 fo).toNat, by omega⟩
        have x64 : x < 64 := by omega
        have eY : inY (nI m) fo A s = (((tdA A x m : Nat) : Int), up2 A 35 51 s) := by unfold inY; rw [if_neg n6, if_neg c, hx, Int.toNat_natCast, nI_cl hm]
        have b51 := bdk_51 (s := s) hb
        rw [hx, iz_n, ckR_35 h2.ra.lay, told_eq h2.ra h2.ok x64 c6 (b51.2.1 x x64) hu, cll_some, td_36 (Y := A) (up2_rown (by decide))]
        exact wp_ret ((FR_good b0).1 _) ⟨s, by rw [eY]; exact (iz_n _).symm, by rw [eY]; exact h2⟩
    · have n6 : nI m < 0 ∨ (6 : Int32) < nI m := Or.inr ((nI_ltP (a := 6) (b := m) (by omega) hm).mpr (by omega))
      have eY : inY (nI m) fo A 0 = (-9, A) := if_pos n6
      rw [if_neg (show ¬ nI m ≤ 6 from fun r => c6 ((nI_leP (a := m) (b := 6) hm (by omega)).mp r))]
      exact wp_ret ((FR_good b0).1 _) ⟨0, by rw [eY]; rfl, by rw [eY]; exact q⟩
theorem infoOf_wp {x w : Int32} (h : RM b0 J σ A N) (hb : A 35 18 ≠ 0 → bdOk (up2 A 35 0 0) ∧ ∀ n, hdA (up2 A 35 0 0) x = some n → n < 64) (hu : 10000 ≤ fu) : wp (FR b0) σ (m_X12_infoOf b0 fu (b0 + 35) x w σ) (PU b0 N A J (ioY x w)) := by
  refine wp_grw (FR_good b0) (pubU_wp h (Nat.le_refl _) (fun ρ e q => ?_))
  obtain ⟨hb2, hh⟩ := hb e
  clear hb
  generalize up2 A 35 0 0 = A at *
  have L := q.ra.lay
  unfold J_X12_infoOf_27 J_X12_infoOf_43
  rw [isHandle_eq q.ra, cll_some]
  cases eh : hdA A x with
  | none =>
    have eY : ioY x w A 0 = (-9, A) := by unfold ioY; rw [eh]
    rw [if_pos (show nI (b2n (none : Option Nat).isSome) = 0 by decide)]
    exact wp_ret ((FR_good b0).1 _) ⟨0, by rw [eY]; rfl, by rw [eY]; exact q⟩
  | some n =>
    have n64 := hh n eh
    have eY : ioY x w A 0 = if w < 0 ∨ (6 : Int32) < w then (-9, A) else (((tdA A n w.toNatClampNeg : Nat) : Int), A) := by unfold ioY; rw [eh]
    obtain ⟨y, y16, rfl, y1, y2, y3⟩ := hd_some eh
    rw [if_neg (show ¬ nI (b2n (some n).isSome) = 0 by show ¬ nI 1 = 0; decide)]
    by_cases c0 : w < 0
    · rw [if_pos (Or.inl c0)] at eY
      rw [if_pos c0]
      exact wp_ret ((FR_good b0).1 _) ⟨0, by rw [eY]; rfl, by rw [eY]; exact q⟩
    · rw [if_neg c0]
      obtain ⟨m, hm, rfl⟩ := nI_of c0
      by_cases c6 : m ≤ 6
      · have n6 : ¬ (nI m < 0 ∨ (6 : Int32) < nI m) := fun r => by
          rcases r with r | r
          · exact c0 r
          · have := (nI_ltP (a := 6) (b := m) (by omega) hm).mp r
            omega
        rw [if_neg n6, nI_cl hm] at eY
        rw [if_pos (show nI m ≤ 6 from (nI_leP (a := m) (b := 6) hm (by omega)).mpr c6), ckR_35 L, osm_p (rfR_35_58 L), ckR_71 L, ckI_n y16 (by omega), y3, hd_rd q.ra y1 y2, told_eq q.ra q.ok n64 c6 (hb2.2.1 n n64) hu, cll_some]
        exact wp_ret ((FR_good b0).1 _) ⟨0, by rw [eY]; exact (iz_n _).symm, by rw [eY]; exact q⟩
      · have n6 : nI m < 0 ∨ (6 : Int32) < nI m := Or.inr ((nI_ltP (a := 6) (b := m) (by omega) hm).mpr (by omega))
        rw [if_pos n6] at eY
        rw [if_neg (show ¬ nI m ≤ 6 from fun r => c6 ((nI_leP (a := m) (b := 6) hm (by omega)).mp r))]
        exact wp_ret ((FR_good b0).1 _) ⟨0, by rw [eY]; rfl, by rw [eY]; exact q⟩
theorem textAt_wp {x : Int32} (h : RM b0 J σ A N) (hb : A 35 18 ≠ 0 → bdOk (up2 A 35 0 0)) (hu : 10000 ≤ fu) : wp (FR b0) σ (m_X12_textAt b0 fu (b0 + 35) x σ) (PU b0 N A J (txY x)) := by
  refine wp_grw (FR_good b0) (pubU_wp h (Nat.le_refl _) (fun ρ e q => ?_))
  have hb := hb e
  generalize up2 A 35 0 0 = A at *
  refine wp_bind (FR_good b0) (walkTo_wp (fu := fu) (w := 0) q (by omega) hb.1 hb.2.1 hu false) ?_
  intro v ρ2 ⟨e1, s, h2⟩
  have e1 : v = iz (wtA A 0 false) := e1
  obtain ⟨a1, a2⟩ := wt_bd (w := 0) (fo := false) q.ok
  have ge := iz_ge a1 a2
  have g36 := on36 (A := up2 A 35 51 s) (B := A) (up2_rown (by decide))
  subst e1
  unfold J_X12_textAt_49 J_X12_textAt_61
  by_cases c : wtA A 0 false < 0
  · have eY : txY x A s = (wtA A 0 false, up2 A 35 51 s) := if_pos c
    rw [if_neg (fun q => by have := ge.mp q; omega)]
    exact wp_ret ((FR_good b0).1 _) ⟨s, by rw [eY], by rw [eY]; exact h2⟩
  · rw [if_pos (ge.mpr (by omega))]
    obtain ⟨n, hx⟩ : ∃ n : Nat, wtA A 0 false = (n : Int) := ⟨(wtA A 0 false).toNat, by omega⟩
    have n64 : n < 64 := by omega
    have L2 := h2.ra.lay
    have eY : txY x A s = if nd A n 0 ≠ 3 then (-9, up2 A 35 51 s) else if x < 0 ∨ nd A n 4 ≤ x.toNatClampNeg then (-1, up2 A 35 51 s) else (((nd A n (5 + x.toNatClampNeg) : Nat) : Int), up2 A 35 51 s) := by unfold txY; rw [if_neg c, hx, Int.toNat_natCast]
    rw [hx, iz_n, ckR_35 L2]
    show wp (FR b0) ρ2 (cll (m_X12_node b0 fu (b0 + 35) (nI n) (nI 0) ρ2) (fun v4 ρ5 => if v4 = nI 3 then _ else _)) _
    rw [node_nd h2.ra n64 (by omega), cll_some, if_e (nd_bd h2.ra _ _) (by omega), g36.1]
    by_cases c2 : nd A n 0 = 3
    · rw [if_neg (fun r => r c2)] at eY
      rw [if_pos c2]
      by_cases c3 : x < 0
      · rw [if_pos (Or.inl c3)] at eY
        rw [if_pos c3]
        exact wp_ret ((FR_good b0).1 _) ⟨s, by rw [eY]; rfl, by rw [eY]; exact h2⟩
      · rw [if_neg c3, ckR_35 L2]
        obtain ⟨m, hm, rfl⟩ := nI_of c3
        rw [nI_cl hm] at eY
        have b4 := nd_4 q.ok n64
        show wp (FR b0) ρ2 (cll (m_X12_node b0 fu (b0 + 35) (nI n) (nI 4) ρ2) (fun v4 ρ5 => if nI m < v4 then _ else _)) _
        rw [node_nd h2.ra n64 (by omega), cll_some, g36.1, if_t hm (by omega)]
        by_cases c4 : m < nd A n 4
        · rw [if_neg (fun r => by rcases r with r | r; exact c3 r; omega)] at eY
          rw [if_pos c4, ckR_35 L2, show (5 : Int32) + nI m = nI (5 + m) from nI_add 5 m, node_nd h2.ra n64 (by omega), cll_some, g36.1]
          exact wp_ret ((FR_good b0).1 _) ⟨s, by rw [eY]; exact (iz_n _).symm, by rw [eY]; exact h2⟩
        · rw [if_pos (Or.inr (by omega))] at eY
          rw [if_neg c4]
          exact wp_ret ((FR_good b0).1 _) ⟨s, by rw [eY]; rfl, by rw [eY]; exact h2⟩
    · rw [if_pos c2] at eY
      rw [if_neg c2]
      exact wp_ret ((FR_good b0).1 _) ⟨s, by rw [eY]; rfl, by rw [eY]; exact h2⟩
end IN
