/-! ===== PURE: the reference undoes ===== -/
def baF (A : tS) (r : Nat) : Bool := A 36 (6080 + r * 274) == 1 && (A 39 (34 + A 35 6 + r) == 3 && A 40 (34 + A 35 6 + r) == A 36 (6080 + r * 274 + 1))
def ba1 (fl : Bool) (r : Nat) : Nat → Nat → tS → tS
  | _, 0, A => A
  | k, m + 1, A => ba1 fl r (k + 1) m (up2 A 47 (256 * r + k) (bif fl then A 41 (256 * r + k) else 0))
def baN : Nat → Nat → tS → tS
  | _, 0, A => A
  | r, m + 1, A => baN (r + 1) m (ba1 (baF A r) r 0 256 A)
section UD
variable {b0 fu : Nat} {σ τ : tM} {A B U : tS} {c : Nat → Nat} {N K K' un ns nl : Nat} {J : tJ}
theorem ba1_o (fl : Bool) (r : Nat) {o : Nat} (j : Nat) (h : o ≠ 47) : ∀ m k A, ba1 fl r k m A o j = A o j
  | 0, _, _ => rfl
  | m + 1, k, A => by unfold ba1; rw [ba1_o fl r j h m, up2_o h]
theorem ba68 {r : Nat} {rc} (hr : r < 2000) (fl : Bool) : ∀ m k f σ A, RM b0 J σ A N → k + m = 256 → m < f → ∃ τ, L_X12_bytesAgain_68 b0 fu rc f (b0 + 35) (nI r) (nI (b2n fl)) (nI k) σ = rc (b0 + 35) (nI (r + 1)) τ ∧ FR b0 σ τ ∧ RM b0 J τ (ba1 fl r k m A) N := by
  intro m
  induction m with
  | zero =>
    intro k f σ A h hk hf
    obtain ⟨f, rfl⟩ : ∃ q, f = q + 1 := ⟨f - 1, by omega⟩
    refine ⟨σ, ?_, (FR_good b0).1 _, h⟩
    unfold L_X12_bytesAgain_68
    rw [ltb_def, show (256 : Int32) = nI 256 from rfl, if_l (by omega) (by omega), if_pos (show 256 ≤ k by omega), ltb_def, ofi]
  | succ m ih =>
    intro k f σ A h hk hf
    obtain ⟨f, rfl⟩ : ∃ q, f = q + 1 := ⟨f - 1, by omega⟩
    have L := h.ra.lay
    have hi : 256 * r + k < 512000 := by omega
    have e1 : (256 : Int32) * nI r + nI k = nI (256 * r + k) := by rw [show (256 : Int32) * nI r = nI (256 * r) from pk_mul 256 r, nI_add]
    cases fl with
    | false =>
      have h1 : RM b0 J (sI σ (b0 + 47) (256 * r + k) (vp_nar .byte (0 : Int32))) (up2 A 47 (256 * r + k) 0) N := RM_fix (x := 0) h (o := 47) rfl (by decide) rfl (by decide)
      obtain ⟨τ, t1, t2, t3⟩ := ih (k + 1) f _ _ h1 (by omega) (by omega)
      refine ⟨τ, ?_, (FR_good b0).2.1 _ _ _ (FR_sI (refO_f 47 (by omega) (by omega))) t2, t3⟩
      unfold L_X12_bytesAgain_68 J_X12_bytesAgain_109
      rw [ltb_def, e1, show (256 : Int32) = nI 256 from rfl, if_l (by omega) (by omega), if_neg (show ¬ 256 ≤ k by omega), ckR_35 L, osm_p (rfR_35_22 L), if_pos (show nI (b2n false) = 0 from rfl), ckR_47 L, ckI_n hi (by omega), ltb_def, ofi, nI_cl (by omega)]
      exact t1
    | true =>
      have b41 := bd_41 h.ra (256 * r + k)
      have h1 : RM b0 J (sI σ (b0 + 47) (256 * r + k) (sb (A 41 (256 * r + k)))) (up2 A 47 (256 * r + k) (A 41 (256 * r + k))) N := RM_fix (x := A 41 (256 * r + k)) h (o := 47) rfl (by decide) rfl b41
      obtain ⟨τ, t1, t2, t3⟩ := ih (k + 1) f _ _ h1 (by omega) (by omega)
      refine ⟨τ, ?_, (FR_good b0).2.1 _ _ _ (FR_sI (refO_f 47 (by omega) (by omega))) t2, t3⟩
      unfold L_X12_bytesAgain_68 J_X12_bytesAgain_109
      rw [ltb_def, e1, show (256 : Int32) = nI 256 from rfl, if_l (by omega) (by omega), if_neg (show ¬ 256 ≤ k by omega), ckR_35 L, osm_p (rfR_35_22 L), if_neg (show ¬ nI (b2n true) = 0 by decide), osm_p (rfR_35_10 L), ckR_41 L, ckI_n hi (by omega), ckR_47 L, ckI_n hi (by omega), ltb_def, ofi, nI_cl (by omega), rd_41 h.ra, vp_nar_byte, sb_sb]
      exact t1
theorem ba2 (hu : 10000 ≤ fu) : ∀ m r f σ A, RM b0 J σ A N → r + m = A 35 7 → A 35 7 ≤ 2000 → A 35 6 ≤ 4096 → m < f → wp (FR b0) σ (L_X12_bytesAgain_2 b0 fu f (b0 + 35) (nI r) σ) (fun _ τ => RM b0 J τ (baN r m A) N) := by
  intro m
  induction m with
  | zero =>
    intro r f σ A h hr h7 h6 hf
    obtain ⟨f, rfl⟩ : ∃ q, f = q + 1 := ⟨f - 1, by omega⟩
    have L := h.ra.lay
    unfold L_X12_bytesAgain_2
    rw [ltb_def, ckR_35 L, rf_7 h.ra, if_l (by omega) (by omega), if_pos (show A 35 7 ≤ r by omega)]
    exact wp_ret ((FR_good b0).1 _) h
  | succ m ih =>
    intro r f σ A h hr h7 h6 hf
    obtain ⟨f, rfl⟩ : ∃ q, f = q + 1 := ⟨f - 1, by omega⟩
    have L := h.ra.lay
    have b36 := bd_36 h.ra (6080 + r * 274)
    have b36' := bd_36 h.ra (6080 + r * 274 + 1)
    have b39 := bd_39 h.ra (34 + A 35 6 + r)
    have b40 := bd_40 h.ra (34 + A 35 6 + r)
    have key : ∀ fl : Bool, baF A r = fl → wp (FR b0) σ (J_X12_bytesAgain_64 b0 fu (L_X12_bytesAgain_2 b0 fu f) (b0 + 35) (nI r) (nI (b2n fl)) σ) (fun _ τ => RM b0 J τ (baN r (m + 1) A) N) := fun fl e => by
      unfold J_X12_bytesAgain_64
      obtain ⟨τ, t1, t2, t3⟩ := ba68 (b0 := b0) (fu := fu) (rc := L_X12_bytesAgain_2 b0 fu f) (show r < 2000 by omega) fl 256 0 fu σ A h (by omega) (by omega)
      show wp (FR b0) σ (L_X12_bytesAgain_68 b0 fu (L_X12_bytesAgain_2 b0 fu f) fu (b0 + 35) (nI r) (nI (b2n fl)) (nI 0) σ) _
      rw [t1]
      refine wp_from (FR_good b0) t2 ?_
      have e35 : ∀ j, ba1 fl r 0 256 A 35 j = A 35 j := fun j => ba1_o fl r j (by decide) 256 0 A
      have eb : baN r (m + 1) A = baN (r + 1) m (ba1 fl r 0 256 A) := by
        show baN (r + 1) m (ba1 (baF A r) r 0 256 A) = _
        rw [e]
      rw [eb]
      exact ih (r + 1) f τ _ t3 (by rw [e35]; omega) (by rw [e35]; exact h7) (by rw [e35]; exact h6) (by omega)
    unfold L_X12_bytesAgain_2 J_X12_bytesAgain_63
    rw [ltb_def, ckR_35 L, rf_7 h.ra, if_l (by omega) (by omega), if_neg (show ¬ A 35 7 ≤ r by omega), numberOf_eq h.ra, cll_some, ckR_35 L, osm_p (rfR_35_1 L)]
    show wp (FR b0) σ (cll (m_X12_room b0 fu (nI r) (nI 0) σ) _) _
    rw [room_eq, cll_some, Nat.add_zero, ckR_36 L, ckI_n (by omega) (by omega), nI_cl (by omega), rd_36 h.ra]
    show wp (FR b0) σ (if nI (A 36 (6080 + r * 274)) = nI 1 then ckO b0 σ (b0 + 35) 11 (osm (tA σ (b0 + 35) 8) (fun a39 => ckR b0 σ a39 0 (fun n43 => ckI (nI (34 + A 35 6 + r)) n43 (if tI σ a39 (nI (34 + A 35 6 + r)).toNatClampNeg = nI 3 then _ else _)))) else _) _
    rw [if_e b36 (by omega), ckR_35 L, osm_p (rfR_35_8 L), ckR_39 L, ckI_n (by omega) (by omega), nI_cl (by omega), rd_39 h.ra, if_e b39 (by omega), osm_p (rfR_35_9 L), ckR_40 L, ckI_n (by omega) (by omega), osm_p (rfR_35_1 L)]
    show wp (FR b0) σ (if A 36 (6080 + r * 274) = 1 then (if A 39 (34 + A 35 6 + r) = 3 then cll (m_X12_room b0 fu (nI r) (nI 1) σ) _ else _) else _) _
    rw [room_eq, cll_some, ckR_36 L, ckI_n (by omega) (by omega), nI_cl (by omega), rd_36 h.ra, rd_40 h.ra, if_e b40 b36']
    by_cases e1 : A 36 (6080 + r * 274) = 1
    · rw [if_pos e1]
      by_cases e2 : A 39 (34 + A 35 6 + r) = 3
      · rw [if_pos e2]
        by_cases e3 : A 40 (34 + A 35 6 + r) = A 36 (6080 + r * 274 + 1)
        · rw [if_pos e3]
          exact key true (by simp [baF, e1, e2, e3])
        · rw [if_neg e3]
          exact key false (by simp [baF, e3])
      · rw [if_neg e2]
        exact key false (by simp [baF, e2])
    · rw [if_neg e1]
      exact key false (by simp [baF, e1])
theorem bytesAgain_wp (h : RM b0 J σ A N) (h7 : A 35 7 ≤ 2000) (h6 : A 35 6 ≤ 4096) (hu : 10000 ≤ fu) : wp (FR b0) σ (m_X12_bytesAgain b0 fu (b0 + 35) σ) (fun _ τ => RM b0 J τ (baN 0 (A 35 7) A) N) := wp_grw (FR_good b0) (ba2 hu (A 35 7) 0 fu σ A h (by omega) h7 h6 (by omega))
end UD
