/-! ===== PURE: the relation behind posting ahead ===== -/
section URO
variable {Φ : tPh} {b0 : Nat} {σ : tM} {bi sp : Nat → Nat} {w : Nat → Nat × Nat} {C : tS} {D : tD} {A : tS} {J : tJ} {K t un : Nat}
theorem ua_RO {p : tP} (hΦ : goodT Φ) (hok : ∀ w A, Φ w A → okT A) (h : CM b0 σ C D) (q : RO Φ bi sp w C D A J) (hd : dsk A (K + 2104102)) (hg : gsA A ≤ A 35 6 ∧ A 35 34 + 1 < 1000000 ∧ A 35 28 + 1 < 1000) (hun : un < 1000000000) (e : uaX (up2 A 35 0 0) J un = .inl p) : AF A p.1 ∧ ∃ sp' C' D', RO Φ bi sp' w C' D' p.1 p.2 ∧ dsk p.1 K := by
  have sc := sC_0 (A := A) (v := 0)
  have tc0 : tcA (up2 A 35 0 0) = tcA A := by
    unfold tcA
    rw [up2_rown (by decide)]
  have rc0 : rcA (up2 A 35 0 0) = rcA A := by
    unfold rcA
    rw [up2_rown (by decide)]
  have gs0 : gsA (up2 A 35 0 0) = gsA A := by
    unfold gsA
    rw [tc0, rc0]
  have hd' := dsk_scr hd sc
  have e6 : up2 A 35 0 0 35 6 = A 35 6 := up2_j (by decide)
  have e34 : up2 A 35 0 0 35 34 = A 35 34 := up2_j (by decide)
  have e28 : up2 A 35 0 0 35 28 = A 35 28 := up2_j (by decide)
  obtain ⟨g1, g2, g3⟩ := hg
  have q' := RO_scr hΦ hok q sc
  have pa := postAhead_on (fu := 10000) (K := K) (un := un) hΦ hok (by decide) h q' hd' (Nat.le_of_eq (Nat.add_assoc K 4096 2100006)) (by rw [gs0, e6]; exact g1) hun (by rw [e34]; exact g2) (by rw [e28]; exact g3)
  have fx := ua_fx (K := K) hΦ hok h q' (dsk_le hd' (Nat.add_le_add_left (by decide) K)) e
  have z0 : up2 A 35 0 0 35 0 = 0 := up2_s A 35 0 0
  obtain ⟨v, τ, y1, y2, y3⟩ := pa
  rw [e] at y3
  obtain ⟨zv, sp', C', D', z1, z2, z3, z4⟩ := y3
  obtain ⟨x1, ⟨x2, x3, x4, x5⟩, x6, x7⟩ := fx
  have gsB : gsA p.1 ≤ A 35 6 / 2 := by
    have := ua_g x7
    rw [e6] at this
    exact this
  exact ⟨⟨fun o a b c => by rw [x1 o a b c, up2_rown a], ⟨by rw [x2, z0], by rw [x3, e6], by rw [x4, up2_j (by decide)], by rw [x5, up2_j (by decide)]⟩, by rw [e34] at x6; exact x6, gsB⟩, sp', C', D', z2, z4⟩
end URO
