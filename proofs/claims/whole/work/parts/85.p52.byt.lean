/-! ===== PURE: the reference's public methods: truncate ===== -/
def trY (x z : Int32) (A : tS) (_ : Nat) : Int × tS := match hdA A x with
  | none => (-9, A)
  | some n => if z < 0 then (-9, A) else if 272384 < z.toNatClampNeg then (-7, A) else (0, szA A n z.toNatClampNeg)
section BY
variable {b0 fu : Nat} {σ τ : tM} {A B U : tS} {N N' K K' : Nat} {J : tJ}
/-- a handle that is one -/
theorem hd_some {x : Int32} {n : Nat} (h : hdA A x = some n) : ∃ y, y < 16 ∧ x = nI y ∧ A 71 y ≠ 0 ∧ A 71 y - 1 = n ∧ x.toNatClampNeg = y := by
  unfold hdA at h
  by_cases cc : ¬ x < 0 ∧ x < 16 ∧ A 71 x.toNatClampNeg ≠ 0
  · rw [if_pos cc] at h
    obtain ⟨c1, c2, c3⟩ := cc
    obtain ⟨y, hy, rfl⟩ := nI_of c1
    have y16 : y < 16 := (nI_ltP (a := y) (b := 16) hy (by omega)).mp c2
    rw [nI_cl hy] at h c3
    exact ⟨y, y16, rfl, c3, by cases h; rfl, nI_cl hy⟩
  · rw [if_neg cc] at h
    cases h
theorem hd_rd {y n : Nat} (h : RA b0 σ A) (h1 : A 71 y ≠ 0) (h2 : A 71 y - 1 = n) : tI σ (b0 + 71) y = nI n := by
  rw [rd_71 h, show nI (A 71 y) - 1 = nI (A 71 y - 1) from nI_sb (b := 1) (by omega), h2]
theorem truncate_wp {x z : Int32} (h : RM b0 J σ A N) (hN : N + 10 < 65536) (hl : A 35 6 ≤ 4096) (ho : uaOk (up2 A 35 0 0) J) (hu : 1200000 ≤ fu)
    (hb : ∀ un p, un ≤ N → uaX (up2 A 35 0 0) J un = .inl p → ∀ n, hdA p.1 x = some n → n < 64 ∧ ∀ size, size < nd p.1 n 1 → ddOk n size ((nd p.1 n 1 - 1) / 256 + 1) (zb (up2 (setN p.1 n 1 size) 50 n 1) n size)) :
    wp (FR b0) σ (m_X12_truncate b0 fu (b0 + 35) x z σ) (PQ b0 N (N + 1) A J (trY x z)) := by
  refine wp_grw (FR_good b0) (pub2_wp h hl ho hu (by omega) (fun un p ρ hun e q => ?_))
  have b1 := hb un p hun e
  generalize p.1 = A at *
  have L := q.ra.lay
  unfold J_X12_truncate_21
  rw [isHandle_eq q.ra, cll_some]
  cases eh : hdA A x with
  | none =>
    have eY : trY x z A 0 = (-9, A) := by unfold trY; rw [eh]
    rw [if_pos (show nI (b2n (none : Option Nat).isSome) = 0 by decide)]
    exact wp_ret ((FR_good b0).1 _) ⟨0, by rw [eY]; rfl, by rw [eY]; exact RM_le q (by omega)⟩
  | some n =>
    have eY : trY x z A 0 = if z < 0 then (-9, A) else if 272384 < z.toNatClampNeg then (-7, A) else (0, szA A n z.toNatClampNeg) := by unfold trY; rw [eh]
    obtain ⟨n64, o1⟩ := b1 n eh
    obtain ⟨y, y16, rfl, y1, y2, y3⟩ := hd_some eh
    rw [if_neg (show ¬ nI (b2n (some n).isSome) = 0 by show ¬ nI 1 = 0; decide)]
    by_cases z0 : z < 0
    · rw [if_pos z0] at eY
      rw [if_neg (Int32.not_le.mpr z0)]
      exact wp_ret ((FR_good b0).1 _) ⟨0, by rw [eY]; rfl, by rw [eY]; exact RM_le q (by omega)⟩
    · rw [if_neg z0] at eY
      obtain ⟨m, hm, rfl⟩ := nI_of z0
      rw [nI_cl hm] at eY
      rw [if_pos (Int32.not_lt.mp z0), show (272384 : Int32) = nI 272384 from rfl, if_l hm (by omega)]
      by_cases z1 : 272384 < m
      · rw [if_pos z1] at eY
        rw [if_neg (by omega)]
        exact wp_ret ((FR_good b0).1 _) ⟨0, by rw [eY]; rfl, by rw [eY]; exact RM_le q (by omega)⟩
      · rw [if_neg z1] at eY
        rw [if_pos (by omega), ckR_35 L, osm_p (rfR_35_58 L), ckR_71 L, ckI_n y16 (by omega), y3, hd_rd q.ra y1 y2]
        refine wp_bind (FR_good b0) (setSize_wp (fu := fu) q (by omega) (by omega) n64 (by omega) (o1 m)) ?_
        intro _ ρ2 h2
        exact wp_ret ((FR_good b0).1 _) ⟨0, by rw [eY]; rfl, by rw [eY]; exact h2⟩
end BY
