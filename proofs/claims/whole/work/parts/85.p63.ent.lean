/-! ===== PURE: the reference's public methods: entry, sum ===== -/
def etY (x w : Int32) (A : tS) (s : Nat) : Int × tS :=
  if w < -1 then (-9, A) else if wtA A 0 true < 0 then (wtA A 0 true, up2 A 35 51 s)
  else if nd A (wtA A 0 true).toNat 0 ≠ 2 then (-3, up2 A 35 51 s)
  else if x < 0 ∨ eAll A (wtA A 0 true).toNat ≤ x.toNatClampNeg then (-1, up2 A 35 51 s)
  else if w < 0 then ((eN A (wtA A 0 true).toNat x.toNatClampNeg : Nat), up2 A 35 51 s)
  else if eN A (wtA A 0 true).toNat x.toNatClampNeg = 64 ∨ eL A (wtA A 0 true).toNat x.toNatClampNeg ≤ w.toNatClampNeg then (-1, up2 A 35 51 s)
  else ((eC A (wtA A 0 true).toNat x.toNatClampNeg w.toNatClampNeg : Nat), up2 A 35 51 s)
/-- the digest of bytes of a file -/
def hsA (A : tS) (n : Nat) : Nat → Nat → Int32 → Int32
  | _, 0, h => h
  | p, m + 1, h => hsA A n (p + 1) m (31 * h + nI (boA A n p))
def smC (A : tS) (n p q : Nat) : Nat := if q ≤ nd A n 1 - p then q else nd A n 1 - p
def smV (c : Nat) (h : Int32) : Int64 := (lN c <<< (((32 : Int32)).toInt64 &&& 63)) + (h.toInt64 &&& 4294967295)
def smY (x p q : Int32) (A : tS) : Int64 × tS := match hdA A x with
  | none => (-9, A)
  | some n => if p < 0 ∨ q < 0 ∨ (16384 : Int32) < q then (-9, A) else (smV (smC A n p.toNatClampNeg q.toNatClampNeg) (hsA A n p.toNatClampNeg (smC A n p.toNatClampNeg q.toNatClampNeg) 0), A)
def smX (x p q : Int32) (A : tS) : Int64 × tS := if A 35 18 = 0 then (0, up2 (up2 A 35 0 0) 35 0 1) else smY x p q (up2 A 35 0 0)
section ES
variable {b0 fu : Nat} {σ τ : tM} {A B U : tS} {N N' K K' : Nat} {J : tJ}
theorem entry_wp {x w : Int32} (h : RM b0 J σ A N) (hb : A 35 18 ≠ 0 → bdOk (up2 A 35 0 0)) (hu : 10000 ≤ fu) : wp (FR b0) σ (m_X12_entry b0 fu (b0 + 35) x w σ) (PU b0 N A J (etY x w)) := by
  refine wp_grw (FR_good b0) (pubV_wp h (Nat.le_refl _) (fun ρ e q => ?_))
  have hb := hb e
  generalize up2 A 35 0 0 = A at *
  unfold J_X12_entry_56 J_X12_entry_96 J_X12_entry_114
  by_cases c0 : w < -1
  · have eY : etY x w A 0 = (-9, A) := if_pos c0
    rw [if_neg (Int32.not_le.mpr c0)]
    exact wp_ret ((FR_good b0).1 _) ⟨0, by rw [eY]; rfl, by rw [eY]; exact q⟩
  rw [if_pos (Int32.not_lt.mp c0), ckR_35 q.ra.lay]
  refine wp_bind (FR_good b0) (walkTo_wp (fu := fu) (w := 0) q (by omega) hb.1 hb.2.1 hu true) ?_
  intro v ρ2 ⟨e1, s, h2⟩
  have e1 : v = iz (wtA A 0 true) := e1
  obtain ⟨a1, a2⟩ := wt_bd (w := 0) (fo := true) q.ok
  have ge := iz_ge a1 a2
  have g36 := on36 (A := up2 A 35 51 s) (B := A) (up2_rown (by decide))
  subst e1
  by_cases c : wtA A 0 true < 0
  · have eY : etY x w A s = (wtA A 0 true, up2 A 35 51 s) := by unfold etY; rw [if_neg c0, if_pos c]
    rw [if_neg (fun q => by have := ge.mp q; omega)]
    exact wp_ret ((FR_good b0).1 _) ⟨s, by rw [eY], by rw [eY]; exact h2⟩
  rw [if_pos (ge.mpr (by omega))]
  obtain ⟨n, hx⟩ : ∃ n : Nat, wtA A 0 true = (n : Int) := ⟨(wtA A 0 true).toNat, by omega⟩
  have n64 : n < 64 := by omega
  have L2 := h2.ra.lay
  have eY : etY x w A s = if nd A n 0 ≠ 2 then (-3, up2 A 35 51 s)
    else if x < 0 ∨ eAll A n ≤ x.toNatClampNeg then (-1, up2 A 35 51 s)
    else if w < 0 then (((eN A n x.toNatClampNeg : Nat) : Int), up2 A 35 51 s)
    else if eN A n x.toNatClampNeg = 64 ∨ eL A n x.toNatClampNeg ≤ w.toNatClampNeg then (-1, up2 A 35 51 s)
    else (((eC A n x.toNatClampNeg w.toNatClampNeg : Nat) : Int), up2 A 35 51 s) := by unfold etY; rw [if_neg c0, if_neg c, hx, Int.toNat_natCast]
  rw [hx, iz_n, ckR_35 L2]
  show wp (FR b0) ρ2 (cll (m_X12_node b0 fu (b0 + 35) (nI n) (nI 0) ρ2) (fun v4 ρ5 => if v4 = nI 2 then _ else _)) _
  rw [node_nd h2.ra n64 (by omega), cll_some, if_e (nd_bd h2.ra _ _) (by omega), g36.1]
  by_cases c2 : nd A n 0 = 2
  · rw [if_neg (fun r => r c2)] at eY
    have b51 := bdk_51 (s := s) hb
    have hD := b51.2.1 n n64 (by rw [g36.1]; exact c2)
    rw [if_pos c2]
    by_cases c3 : x < 0
    · rw [if_pos (Or.inl c3)] at eY
      rw [if_pos c3]
      exact wp_ret ((FR_good b0).1 _) ⟨s, by rw [eY]; rfl, by rw [eY]; exact h2⟩
    · obtain ⟨k, hk, rfl⟩ := nI_of c3
      rw [nI_cl hk] at eY
      have ea : eAll (up2 A 35 51 s) n = eAll A n := by unfold eAll; rw [g36.1]
      have eb : eAll (up2 A 35 51 s) n < 8512 := by have := hD.2.1; unfold eAll; omega
      have ex1 : ∀ k w, ex (up2 A 35 51 s) n k w = ex A n k w := fun k w => by unfold ex; rw [g36.2.2.2.1]
      have en1 : eN (up2 A 35 51 s) n k = eN A n k := by unfold eN; rw [ex1, up2_o (by decide)]
      have el1 : eL (up2 A 35 51 s) n k = eL A n k := by unfold eL; rw [ex1, up2_o (by decide)]
      rw [if_neg c3, ckR_35 L2, entries_eq h2.ra h2.ok n64, cll_some, if_t hk (by omega)]
      by_cases c4 : k < eAll A n
      · have k8 : k / 8 < nd (up2 A 35 51 s) n 1 / 256 := by unfold eAll at ea c4; omega
        have b1 := eN_lt h2.ok n k
        have b2 := eL_lt h2.ok n k
        have hz := hD.2.2 _ k8
        have k10 : k / 8 < 1064 := by have := hD.2.1; omega
        have hxx : ∀ w, w < 30 → ex (up2 A 35 51 s) n k w < 554080 := fun w hw => by
          have := has_le h2.ok (n := n) (i := k / 8) n64 (by omega)
          unfold ex
          omega
        rw [if_neg (fun r => by rcases r with r | r; exact c3 r; omega)] at eY
        rw [if_pos (by omega), ckR_35 L2, entryNode_eq h2.ra h2.ok n64 k10 hz, cll_some, en1]
        by_cases c5 : w < 0
        · rw [if_pos c5] at eY
          rw [if_neg (Int32.not_le.mpr c5)]
          exact wp_ret ((FR_good b0).1 _) ⟨s, by rw [eY]; exact (iz_n _).symm, by rw [eY]; exact h2⟩
        · rw [if_neg c5] at eY
          obtain ⟨m, hm, rfl⟩ := nI_of c5
          rw [nI_cl hm] at eY
          rw [if_pos (Int32.not_lt.mp c5)]
          show wp (FR b0) ρ2 (if nI (eN A n k) = nI 64 then _ else _) _
          rw [if_e (by omega) (by omega)]
          by_cases c6 : eN A n k = 64
          · rw [if_pos (Or.inl c6)] at eY
            rw [if_pos c6]
            exact wp_ret ((FR_good b0).1 _) ⟨s, by rw [eY]; rfl, by rw [eY]; exact h2⟩
          · rw [if_neg c6, ckR_35 L2, osm_p (rfR_35_1 L2)]
            show wp (FR b0) ρ2 (cll (m_X12_entryAt b0 fu (b0 + 35) (nI n) (nI k) (nI 1) ρ2) _) _
            rw [entryAt_eq h2.ra h2.ok n64 k10 (by omega) hz, cll_some, ckR_36 L2, ckI_n (hxx 1 (by omega)) (by omega), nI_cl (by have := hxx 1 (by omega); omega), rd_36 h2.ra]
            show wp (FR b0) ρ2 (if nI m < nI (eL (up2 A 35 51 s) n k) then _ else _) _
            rw [if_t hm (by omega), el1]
            by_cases c7 : m < eL A n k
            · rw [if_neg (fun r => by rcases r with r | r; exact c6 r; omega)] at eY
              rw [if_pos c7, ckR_35 L2, osm_p (rfR_35_1 L2), show (2 : Int32) + nI m = nI (2 + m) from nI_add 2 m, entryAt_eq h2.ra h2.ok n64 k10 (by omega) hz, cll_some, ckR_36 L2, ckI_n (hxx (2 + m) (by omega)) (by omega), nI_cl (by have := hxx (2 + m) (by omega); omega), rd_36 h2.ra]
              exact wp_ret ((FR_good b0).1 _) ⟨s, by rw [eY, iz_n, ex1, up2_o (by decide)]; rfl, by rw [eY]; exact h2⟩
            · rw [if_pos (Or.inr (by omega))] at eY
              rw [if_neg c7]
              exact wp_ret ((FR_good b0).1 _) ⟨s, by rw [eY]; rfl, by rw [eY]; exact h2⟩
      · rw [if_pos (Or.inr (by omega))] at eY
        rw [if_neg (by omega)]
        exact wp_ret ((FR_good b0).1 _) ⟨s, by rw [eY]; rfl, by rw [eY]; exact h2⟩
  · rw [if_pos c2] at eY
    rw [if_neg c2]
    exact wp_ret ((FR_good b0).1 _) ⟨s, by rw [eY]; rfl, by rw [eY]; exact h2⟩
theorem sm45 (h : RA b0 σ A) (hT : okT A) {n p q y : Nat} (hn : n < 64) (hy : y < 16) (y1 : A 71 y ≠ 0) (y2 : A 71 y - 1 = n) (hp : p < 2147483648) (hq : q ≤ 16384) : ∀ m i f hh, i + m = smC A n p q → m < f → L_X12_sum_45 b0 fu f (b0 + 35) (nI y) (nI p) (nI q) hh (lN i) (nI i) σ = some (smV (smC A n p q) (hsA A n (p + i) m hh), σ) := by
  have L := h.lay
  have hs : nd A n 1 < 272385 := sz_lt hT hn
  intro m
  induction m with
  | zero =>
    intro i f hh hi hf
    obtain ⟨f, rfl⟩ : ∃ q, f = q + 1 := ⟨f - 1, by omega⟩
    have ei : i = smC A n p q := by omega
    unfold L_X12_sum_45 J_X12_sum_110
    have iq : i ≤ q := by unfold smC at ei; split at ei <;> omega
    rw [ltb_def, if_l (by omega) (by omega)]
    by_cases c : q ≤ i
    · rw [if_pos c, ← ei]
      rfl
    · have ei2 : i = nd A n 1 - p := by unfold smC at ei; split at ei <;> omega
      rw [if_neg c, ckR_35 L, osm_p (rfR_35_58 L), ckR_71 L, ckI_n hy (by omega), nI_cl (by omega), hd_rd h y1 y2]
      show cll (m_X12_node b0 fu (b0 + 35) (nI n) (nI 1) σ) (fun v24 ρ25 => if v24 ≤ nI p + nI i then _ else _) = _
      rw [node_nd h hn (by omega), cll_some, nI_add]
      by_cases cc : p + i < 2147483648
      · rw [if_l (by omega) cc, if_pos (by omega), ← ei]
        rfl
      · exact absurd cc (by omega)
  | succ m ih =>
    intro i f hh hi hf
    obtain ⟨f, rfl⟩ : ∃ q, f = q + 1 := ⟨f - 1, by omega⟩
    have i1 : i < q ∧ p + i < nd A n 1 := by unfold smC at hi; split at hi <;> omega
    unfold L_X12_sum_45
    rw [ltb_def, if_l (by omega) (by omega), if_neg (by omega), ckR_35 L, osm_p (rfR_35_58 L), ckR_71 L, ckI_n hy (by omega), nI_cl (by omega), hd_rd h y1 y2]
    show cll (m_X12_node b0 fu (b0 + 35) (nI n) (nI 1) σ) (fun v24 ρ25 => if v24 ≤ nI p + nI i then _ else _) = _
    rw [node_nd h hn (by omega), cll_some, nI_add, if_l (by omega) (by omega), if_neg (by omega), if_neg (nI_pos (by omega)), ckR_35 L, osm_p (rfR_35_58 L), ckR_71 L, ckI_n hy (by omega), hd_rd h y1 y2, byteOf_eq h hT hn (by omega), cll_some, ltb_def, ltb_def, ltb_def, lN_1, ofi]
    exact ih (i + 1) f _ (by omega) (by omega)
theorem sum_wp {x p q : Int32} (h : RM b0 J σ A N) (hb : A 35 18 ≠ 0 → ∀ n, hdA (up2 A 35 0 0) x = some n → n < 64) (hu : 20000 ≤ fu) : wp (FR b0) σ (m_X12_sum b0 fu (b0 + 35) x p q σ) (fun v τ => v = (smX x p q A).1 ∧ RM b0 J τ (smX x p q A).2 N) := by
  refine wp_grw (FR_good b0) ?_
  have L := h.ra.lay
  rw [ckR_35 L]
  have h1 : RM b0 J (sI σ (b0 + 35) 0 0) (up2 A 35 0 0) N := RM_fix (x := 0) h rfl (by decide) rfl (by decide)
  have hup := up_wp (fu := fu) h1
  rw [up2_j (show (18 : Nat) ≠ 0 by decide)] at hup
  unfold smX
  by_cases e : A 35 18 = 0
  · simp only [if_pos e] at hup ⊢
    refine wp_from (FR_good b0) (FR_sI (refO_f 35 (by omega) (by omega))) (wp_cly (FR_good b0) hup ?_ ?_)
    · intro v ρ q
      exact absurd q.1 (fun e => by cases e)
    · intro ρ q
      rw [ckR_35 q.2.ra.lay]
      refine wp_bind (FR_good b0) (off_wp (fu := fu) q.2) ?_
      intro v ρ2 ⟨e1, q3⟩
      subst e1
      exact wp_ret ((FR_good b0).1 _) ⟨rfl, q3⟩
  · simp only [if_neg e] at hup ⊢
    refine wp_from (FR_good b0) (FR_sI (refO_f 35 (by omega) (by omega))) (wp_cly (FR_good b0) hup ?_ ?_)
    · intro v ρ r
      have r := r.2
      have hh := hb e
      clear hb hup h1
      generalize up2 A 35 0 0 = A at *
      have L := r.ra.lay
      unfold J_X12_sum_32
      rw [ckR_35 L, isHandle_eq r.ra, cll_some]
      cases eh : hdA A x with
      | none =>
        have eY : smY x p q A = (-9, A) := by unfold smY; rw [eh]
        rw [if_pos (show nI (b2n (none : Option Nat).isSome) = 0 by decide)]
        exact wp_ret ((FR_good b0).1 _) ⟨by rw [eY], by rw [eY]; exact r⟩
      | some n =>
        have n64 := hh n eh
        have eY : smY x p q A = if p < 0 ∨ q < 0 ∨ (16384 : Int32) < q then (-9, A) else (smV (smC A n p.toNatClampNeg q.toNatClampNeg) (hsA A n p.toNatClampNeg (smC A n p.toNatClampNeg q.toNatClampNeg) 0), A) := by unfold smY; rw [eh]
        obtain ⟨y, y16, rfl, y1, y2, y3⟩ := hd_some eh
        rw [if_neg (show ¬ nI (b2n (some n).isSome) = 0 by show ¬ nI 1 = 0; decide)]
        by_cases c0 : p < 0
        · rw [if_pos (Or.inl c0)] at eY
          rw [if_pos c0]
          exact wp_ret ((FR_good b0).1 _) ⟨by rw [eY], by rw [eY]; exact r⟩
        · rw [if_neg c0]
          by_cases c1 : q < 0
          · rw [if_pos (Or.inr (Or.inl c1))] at eY
            rw [if_pos c1]
            exact wp_ret ((FR_good b0).1 _) ⟨by rw [eY], by rw [eY]; exact r⟩
          · rw [if_neg c1]
            obtain ⟨P, hP, rfl⟩ := nI_of c0
            obtain ⟨Q, hQ, rfl⟩ := nI_of c1
            by_cases c2 : Q ≤ 16384
            · rw [if_neg (fun z => by
                rcases z with z | z | z
                · exact c0 z
                · exact c1 z
                · have := (nI_ltP (a := 16384) (b := Q) (by omega) hQ).mp z
                  omega), nI_cl hP, nI_cl hQ] at eY
              rw [if_pos (show nI Q ≤ 16384 from (nI_leP (a := Q) (b := 16384) hQ (by omega)).mpr c2)]
              have sq : smC A n P Q ≤ Q := by unfold smC; split <;> omega
              have := sm45 (fu := fu) (p := P) (q := Q) r.ra r.ok n64 y16 y1 y2 hP c2 (smC A n P Q) 0 fu 0 (Nat.zero_add _) (by omega)
              refine wp_eq this (wp_ret ((FR_good b0).1 _) ⟨?_, ?_⟩)
              · rw [eY]
                rfl
              · rw [eY]
                exact r
            · have c3 : (16384 : Int32) < nI Q := (nI_ltP (a := 16384) (b := Q) (by omega) hQ).mpr (by omega)
              rw [if_pos (Or.inr (Or.inr c3))] at eY
              rw [if_neg (show ¬ nI Q ≤ 16384 from fun z => c2 ((nI_leP (a := Q) (b := 16384) hQ (by omega)).mp z))]
              exact wp_ret ((FR_good b0).1 _) ⟨by rw [eY], by rw [eY]; exact r⟩
    · intro ρ q
      exact absurd q.1 (fun e => by cases e)
end ES
