/-! ===== PURE: the reference's bytes: its last loop ===== -/
/-- bytes laid into the blocks of a node -/
def wbA (n off : Nat) (tx : Nat → Nat) : Nat → Nat → tS → tS
  | _, 0, A => A
  | k, m + 1, A => wbA n off tx (k + 1) m (up2 (up2 A 47 (256 * (hasA A n ((off + k) / 256) - 1) + (off + k) % 256) (tx k)) 48 (hasA A n ((off + k) / 256) - 1) 1)
def vz (v : Int32) (A : tS) (k : Nat) : Nat := if (0 : Int32) ≤ v then v.toNatClampNeg else A 70 k
section BZ
variable {b0 fu : Nat} {σ τ : tM} {A B U : tS} {N N' K K' : Nat} {J : tJ}
theorem wb178 {rc} {n off len k r : Nat} {p3 s2 : Int32} {x : Nat} (h : RM b0 J σ A N) (hr : r < 2000) (hx : x < 256) (hs : s2 = sb x) {c : Nat} (hc : c < 256) :
    J_X12_bytes_178 b0 fu rc (b0 + 35) (nI off) (nI len) p3 (nI n) (nI k) (nI r) (b0 + 47) (nI (256 * r + c)) s2 σ = rc (b0 + 35) (nI off) (nI len) p3 (nI n) (nI (k + 1)) (sI (sI σ (b0 + 47) (256 * r + c) (sb x)) (b0 + 48) r 1) ∧ RM b0 J (sI (sI σ (b0 + 47) (256 * r + c) (sb x)) (b0 + 48) r 1) (up2 (up2 A 47 (256 * r + c) x) 48 r 1) N ∧ FR b0 σ (sI (sI σ (b0 + 47) (256 * r + c) (sb x)) (b0 + 48) r 1) := by
  have L := h.ra.lay
  have h1 : RM b0 J (sI σ (b0 + 47) (256 * r + c) (sb x)) (up2 A 47 (256 * r + c) x) N := RM_fix (x := x) h (o := 47) rfl (by decide) rfl hx
  have h2 : RM b0 J (sI (sI σ (b0 + 47) (256 * r + c) (sb x)) (b0 + 48) r 1) (up2 (up2 A 47 (256 * r + c) x) 48 r 1) N := RM_fix (x := 1) h1 (o := 48) rfl (by decide) rfl (by decide)
  refine ⟨?_, h2, (FR_good b0).2.1 _ _ _ (FR_sI (refO_f 47 (by omega) (by omega))) (FR_sI (refO_f 48 (by omega) (by omega)))⟩
  have ev : vp_nar .byte s2 = sb x := by rw [hs]; exact sb_sb x
  have L1 := h1.ra.lay
  unfold J_X12_bytes_178
  rw [ckR_47 L, ckI_n (by omega) (by omega), nI_cl (by omega), ev, ckR_35 L1, osm_p (rfR_35_23 L1), ckR_48 L1, ckI_n (by omega) (by omega), nI_cl (by omega), ltb_def, ofi]
  rfl
theorem wb117 {n off len : Nat} {p3 : Int32} (hn : n < 64) (hl : off + len ≤ 272384) (hp : p3 = -1 ∧ len ≤ 4000 ∨ ∃ v, v < 256 ∧ p3 = nI v) : ∀ m k f (σ : tM) (A : tS), RM b0 J σ A N → k + m = len → m < f → (∀ i, i < len → hasA A n ((off + i) / 256) ≠ 0) → (∀ i, i < len → A 70 i < 256) →
    wp (FR b0) σ (L_X12_bytes_117 b0 fu f (b0 + 35) (nI off) (nI len) p3 (nI n) (nI k) σ) (fun v τ => v = nI len ∧ RM b0 J τ (wbA n off (vz p3 A) k m A) N) := by
  intro m
  induction m with
  | zero =>
    intro k f σ A h hk hf hh ht
    obtain ⟨f, rfl⟩ : ∃ q, f = q + 1 := ⟨f - 1, by omega⟩
    unfold L_X12_bytes_117
    rw [ltb_def, if_l (by omega) (by omega), if_pos (by omega)]
    exact wp_ret ((FR_good b0).1 _) ⟨rfl, h⟩
  | succ m ih =>
    intro k f σ A h hk hf hh ht
    obtain ⟨f, rfl⟩ : ∃ q, f = q + 1 := ⟨f - 1, by omega⟩
    have L := h.ra.lay
    have i1 : (off + k) / 256 < 1064 := by omega
    have l1 := has_le h.ok (n := n) (i := (off + k) / 256) hn i1
    have z1 := hh k (by omega)
    have t1 := ht k (by omega)
    have c1 : (off + k) % 256 < 256 := Nat.mod_lt _ (by omega)
    have e1 : nI off + nI k = nI (off + k) := nI_add off k
    have e2 : nI (off + k) / (256 : Int32) = nI ((off + k) / 256) := nI_dv (d := 256) (by omega) (by omega) (by omega)
    have e3 : nI ((off + k) / 256) * (256 : Int32) = nI ((off + k) / 256 * 256) := pk_mul _ _
    have e4 : nI (off + k) - nI ((off + k) / 256 * 256) = nI ((off + k) % 256) := by
      rw [nI_sb (by omega)]
      congr 1
      omega
    unfold L_X12_bytes_117
    rw [ltb_def, if_l (by omega) (by omega), if_neg (by omega), ckR_35 L, e1, e2, has_eq h.ra h.ok hn i1, cll_some, ltb_def, ckR_35 L, osm_p (rfR_35_22 L), e3, e4]
    show wp (FR b0) σ (if (0 : Int32) ≤ p3 then _ else _) _
    have e5 : nI (hasA A n ((off + k) / 256)) - (1 : Int32) = nI (hasA A n ((off + k) / 256) - 1) := nI_sb (b := 1) (by omega)
    have e6 : (256 : Int32) * nI (hasA A n ((off + k) / 256) - 1) + nI ((off + k) % 256) = nI (256 * (hasA A n ((off + k) / 256) - 1) + (off + k) % 256) := by
      rw [show (256 : Int32) * nI (hasA A n ((off + k) / 256) - 1) = nI (256 * (hasA A n ((off + k) / 256) - 1)) from pk_mul _ _, nI_add]
    rw [e5, e6]
    have step : ∀ x, x < 256 → x = vz p3 A k → ∀ s2, s2 = sb x → wp (FR b0) σ (J_X12_bytes_178 b0 fu (L_X12_bytes_117 b0 fu f) (b0 + 35) (nI off) (nI len) p3 (nI n) (nI k) (nI (hasA A n ((off + k) / 256) - 1)) (b0 + 47) (nI (256 * (hasA A n ((off + k) / 256) - 1) + (off + k) % 256)) s2 σ) (fun v τ => v = nI len ∧ RM b0 J τ (wbA n off (vz p3 A) k (m + 1) A) N) := by
      intro x hx ex s2 hs
      obtain ⟨s1, h2, f2⟩ := wb178 (fu := fu) (rc := L_X12_bytes_117 b0 fu f) (n := n) (off := off) (len := len) (k := k) (p3 := p3) h (show hasA A n ((off + k) / 256) - 1 < 2000 by omega) hx hs c1
      rw [s1]
      have g36 := on36 (A := up2 (up2 A 47 (256 * (hasA A n ((off + k) / 256) - 1) + (off + k) % 256) x) 48 (hasA A n ((off + k) / 256) - 1) 1) (B := A) (by rw [up2_rown (by decide), up2_rown (by decide)])
      have g70 : up2 (up2 A 47 (256 * (hasA A n ((off + k) / 256) - 1) + (off + k) % 256) x) 48 (hasA A n ((off + k) / 256) - 1) 1 70 = A 70 := by rw [up2_rown (by decide), up2_rown (by decide)]
      have gv : vz p3 (up2 (up2 A 47 (256 * (hasA A n ((off + k) / 256) - 1) + (off + k) % 256) x) 48 (hasA A n ((off + k) / 256) - 1) 1) = vz p3 A := by funext i; unfold vz; rw [g70]
      have := ih (k + 1) f _ _ h2 (by omega) (by omega) (by rw [g36.2.2.2.1]; exact hh) (by rw [g70]; exact ht)
      rw [gv] at this
      refine wp_from (FR_good b0) f2 ?_
      show wp (FR b0) _ _ (fun v τ => v = nI len ∧ RM b0 J τ (wbA n off (vz p3 A) (k + 1) m (up2 (up2 A 47 (256 * (hasA A n ((off + k) / 256) - 1) + (off + k) % 256) (vz p3 A k)) 48 (hasA A n ((off + k) / 256) - 1) 1)) N)
      rw [← ex]
      exact this
    rcases hp with ⟨rfl, hp⟩ | ⟨v, hv, rfl⟩
    · rw [if_neg (show ¬ (0 : Int32) ≤ -1 by decide), osm_p (rfR_35_56 L), ckR_70 L, ckI_n (by omega) (by omega), nI_cl (by omega), rd_70 h.ra]
      exact step (A 70 k) t1 (by unfold vz; rw [if_neg (show ¬ (0 : Int32) ≤ -1 by decide)]) _ rfl
    · have vp : (0 : Int32) ≤ nI v := Int32.not_lt.mp (nI_pos (by omega))
      rw [if_pos vp]
      exact step v hv (by unfold vz; rw [if_pos vp, nI_cl (by omega)]) _ rfl
end BZ
