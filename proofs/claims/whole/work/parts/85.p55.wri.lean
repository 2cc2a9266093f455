/-! ===== PURE: the reference's public methods: write, fill ===== -/
/-- what write and fill answer once their arguments are fit -/
def hbY (x : Int32) (off len : Int32) (p3 : Int32) (fit : Bool) (A : tS) : Int × tS := match hdA A x with
  | none => (-9, A)
  | some n => if off < 0 ∨ len < 0 ∨ fit = false then (-9, A) else byZ n off.toNatClampNeg len.toNatClampNeg p3 A
def wrF (A : tS) (len : Int32) : Bool := !decide (nI (A 35 57) < len)
def wrY (x off len : Int32) (A : tS) (_ : Nat) : Int × tS := ((hbY x off len (-1) (wrF A len) A).1, up2 (hbY x off len (-1) (wrF A len) A).2 35 57 0)
def fiF (len v : Int32) : Bool := !decide ((16384 : Int32) < len ∨ v < 0 ∨ (255 : Int32) < v)
def fiY (x off len v : Int32) (A : tS) (_ : Nat) : Int × tS := hbY x off len v (fiF len v) A
def hbOk (x off len : Int32) (fit : Bool) (A : tS) : Prop := ∀ n, hdA A x = some n → ¬ off < 0 → ¬ len < 0 → fit = true → n < 64 ∧ (off.toNatClampNeg + len.toNatClampNeg ≤ 272384 → 1 ≤ len.toNatClampNeg → byOk n off.toNatClampNeg len.toNatClampNeg A)
section WR
variable {b0 fu : Nat} {σ τ : tM} {A B U : tS} {N N' K K' : Nat} {J : tJ}
theorem fill_wp {x off len v : Int32} (h : RM b0 J σ A N) (hN : N + 500 < 65536) (hl : A 35 6 ≤ 4096) (ho : uaOk (up2 A 35 0 0) J) (hu : 1200000 ≤ fu) (hb : ∀ un p, un ≤ N → uaX (up2 A 35 0 0) J un = .inl p → hbOk x off len (fiF len v) p.1) :
    wp (FR b0) σ (m_X12_fill b0 fu (b0 + 35) x off len v σ) (PQ b0 N (N + 401) A J (fiY x off len v)) := by
  refine wp_grw (FR_good b0) (pub2_wp h hl ho hu (by omega) (fun un p ρ hun e q => ?_))
  have b1 := hb un p hun e
  generalize p.1 = A at *
  have L := q.ra.lay
  unfold J_X12_fill_49 J_X12_fill_50 J_X12_fill_71
  rw [isHandle_eq q.ra, cll_some, if_pos rfl, if_neg (show ¬ (1 : Int32) = 0 by decide)]
  cases eh : hdA A x with
  | none =>
    have eY : fiY x off len v A 0 = (-9, A) := by unfold fiY hbY; rw [eh]
    rw [if_pos (show nI (b2n (none : Option Nat).isSome) = 0 by decide)]
    exact wp_ret ((FR_good b0).1 _) ⟨0, by rw [eY]; rfl, by rw [eY]; exact RM_le q (by omega)⟩
  | some n =>
    have eY : fiY x off len v A 0 = if off < 0 ∨ len < 0 ∨ fiF len v = false then (-9, A) else byZ n off.toNatClampNeg len.toNatClampNeg v A := by unfold fiY hbY; rw [eh]
    have b2 := b1 n eh
    obtain ⟨y, y16, rfl, y1, y2, y3⟩ := hd_some eh
    rw [if_neg (show ¬ nI (b2n (some n).isSome) = 0 by show ¬ nI 1 = 0; decide)]
    have bad : off < 0 ∨ len < 0 ∨ fiF len v = false → wp (FR b0) ρ (some ((-9 : Int32), ρ)) (fun r τ => ∃ s, r = iz (fiY (nI y) off len v A s).1 ∧ RM b0 p.2 τ (fiY (nI y) off len v A s).2 (N + 401)) := fun cc => by
      rw [if_pos cc] at eY
      exact wp_ret ((FR_good b0).1 _) ⟨0, by rw [eY]; rfl, by rw [eY]; exact RM_le q (by omega)⟩
    by_cases c1 : off < 0
    · rw [if_pos c1]
      exact bad (Or.inl c1)
    · rw [if_neg c1]
      by_cases c2 : len < 0
      · rw [if_pos c2]
        exact bad (Or.inr (Or.inl c2))
      · rw [if_neg c2]
        by_cases c3 : (16384 : Int32) < len
        · rw [if_pos c3]
          exact bad (Or.inr (Or.inr (by unfold fiF; rw [decide_eq_true (Or.inl c3)]; rfl)))
        · rw [if_neg c3]
          by_cases c4 : v < 0
          · rw [if_pos c4]
            exact bad (Or.inr (Or.inr (by unfold fiF; rw [decide_eq_true (Or.inr (Or.inl c4))]; rfl)))
          · rw [if_neg c4]
            by_cases c5 : (255 : Int32) < v
            · rw [if_pos c5]
              exact bad (Or.inr (Or.inr (by unfold fiF; rw [decide_eq_true (Or.inr (Or.inr c5))]; rfl)))
            · rw [if_neg c5, ckR_35 L]
              have ff : fiF len v = true := by
                unfold fiF
                rw [decide_eq_false (fun q => by rcases q with q | q | q; exact c3 q; exact c4 q; exact c5 q)]
                rfl
              rw [if_neg (fun q => by rcases q with q | q | q; exact c1 q; exact c2 q; rw [ff] at q; cases q)] at eY
              obtain ⟨n64, o2⟩ := b2 c1 c2 ff
              obtain ⟨a, ha, rfl⟩ := nI_of c1
              obtain ⟨b, hb2, rfl⟩ := nI_of c2
              obtain ⟨w, hw, rfl⟩ := nI_of c4
              have w255 : w < 256 := by
                rcases Nat.lt_or_ge w 256 with q | q
                · exact q
                · exact absurd ((nI_ltP (a := 255) (b := w) (by omega) hw).mpr (by omega)) c5
              rw [nI_cl ha, nI_cl hb2] at eY o2
              refine wp_bind (FR_good b0) (bytes_wp (fu := fu) q hN y16 y1 y2 n64 ha hb2 (Or.inr ⟨w, w255, rfl⟩) o2 hu) ?_
              intro r ρ2 ⟨e1, h3⟩
              exact wp_ret ((FR_good b0).1 _) ⟨0, by rw [eY]; exact e1, by rw [eY]; exact h3⟩
theorem wr58 {s0 : Int32} (h : RM b0 J σ A N) : wp (FR b0) σ (J_X12_write_58 b0 fu (b0 + 35) s0 σ) (fun v τ => v = s0 ∧ RM b0 J τ (up2 A 35 57 0) N) := by
  unfold J_X12_write_58
  rw [ckR_35 h.ra.lay]
  exact wp_ret (FR_sI (refO_f 35 (by omega) (by omega))) ⟨rfl, RM_fix (x := 0) h rfl (by decide) rfl (by decide)⟩
theorem write_wp {x off len : Int32} (h : RM b0 J σ A N) (hN : N + 500 < 65536) (hl : A 35 6 ≤ 4096) (ho : uaOk (up2 A 35 0 0) J) (hu : 1200000 ≤ fu) (hb : ∀ un p, un ≤ N → uaX (up2 A 35 0 0) J un = .inl p → p.1 35 57 ≤ 4000 ∧ hbOk x off len (wrF p.1 len) p.1) :
    wp (FR b0) σ (m_X12_write b0 fu (b0 + 35) x off len σ) (PQ b0 N (N + 401) A J (wrY x off len)) := by
  refine wp_grw (FR_good b0) (pub2_wp h hl ho hu (by omega) (fun un p ρ hun e q => ?_))
  obtain ⟨b0', b1⟩ := hb un p hun e
  generalize p.1 = A at *
  have L := q.ra.lay
  unfold J_X12_write_37 J_X12_write_38
  rw [isHandle_eq q.ra, cll_some, if_pos rfl, if_neg (show ¬ (1 : Int32) = 0 by decide)]
  have bad : hbY x off len (-1) (wrF A len) A = (-9, A) → wp (FR b0) ρ (J_X12_write_58 b0 fu (b0 + 35) (-9) ρ) (fun r τ => ∃ s, r = iz (wrY x off len A s).1 ∧ RM b0 p.2 τ (wrY x off len A s).2 (N + 401)) := fun eY => by
    obtain ⟨v, τ, x1, x2, x3, x4⟩ := wr58 (fu := fu) (s0 := -9) q
    exact ⟨v, τ, x1, x2, 0, by unfold wrY; rw [eY, x3]; rfl, by unfold wrY; rw [eY]; exact RM_le x4 (by omega)⟩
  cases eh : hdA A x with
  | none =>
    rw [if_pos (show nI (b2n (none : Option Nat).isSome) = 0 by decide)]
    exact bad (by unfold hbY; rw [eh])
  | some n =>
    have eY : hbY x off len (-1) (wrF A len) A = if off < 0 ∨ len < 0 ∨ wrF A len = false then (-9, A) else byZ n off.toNatClampNeg len.toNatClampNeg (-1) A := by unfold hbY; rw [eh]
    have b2 := b1 n eh
    rw [if_neg (show ¬ nI (b2n (some n).isSome) = 0 by show ¬ nI 1 = 0; decide)]
    by_cases c1 : off < 0
    · rw [if_pos c1]
      exact bad (by rw [eY, if_pos (Or.inl c1)])
    · rw [if_neg c1]
      by_cases c2 : len < 0
      · rw [if_pos c2]
        exact bad (by rw [eY, if_pos (Or.inr (Or.inl c2))])
      · rw [if_neg c2, ckR_35 L, rf_57 q.ra]
        by_cases c3 : nI (A 35 57) < len
        · rw [if_pos c3]
          exact bad (by rw [eY, if_pos (Or.inr (Or.inr (by unfold wrF; rw [decide_eq_true c3]; rfl)))])
        · rw [if_neg c3, ckR_35 L]
          have ff : wrF A len = true := by unfold wrF; rw [decide_eq_false c3]; rfl
          rw [if_neg (fun q => by rcases q with q | q | q; exact c1 q; exact c2 q; rw [ff] at q; cases q)] at eY
          obtain ⟨n64, o2⟩ := b2 c1 c2 ff
          obtain ⟨y, y16, rfl, y1, y2, y3⟩ := hd_some eh
          obtain ⟨a, ha, rfl⟩ := nI_of c1
          obtain ⟨b, hb2, rfl⟩ := nI_of c2
          have b4 : b ≤ 4000 := by
            rcases Nat.lt_or_ge (A 35 57) b with r | r
            · exact absurd ((nI_ltP (by omega) hb2).mpr r) c3
            · omega
          rw [nI_cl ha, nI_cl hb2] at eY o2
          refine wp_bind (FR_good b0) (bytes_wp (fu := fu) q hN y16 y1 y2 n64 ha hb2 (Or.inl ⟨rfl, b4⟩) o2 hu) ?_
          intro r ρ2 ⟨e1, h3⟩
          obtain ⟨v, τ, x1, x2, x3, x4⟩ := wr58 (fu := fu) (s0 := r) h3
          exact ⟨v, τ, x1, x2, 0, by unfold wrY; rw [eY, x3]; exact e1, by unfold wrY; rw [eY]; exact x4⟩
end WR
