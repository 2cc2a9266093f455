/-! ===== PURE: the class's Tape and PathText; feed, path ===== -/
def tpN (v : Int32) : Nat → tS → tS
  | 0, C => C
  | m + 1, C => tpN v m (up2 (up2 C 27 (C 26 1) (v.toBitVec.toNat / 2 ^ (8 * m) % 256)) 26 1 (C 26 1 + 1))
/-- tape and paths are alike -/
def TP (C A : tS) : Prop := C 26 1 = A 35 57 ∧ (∀ j, C 27 j = A 70 j) ∧ (C 28 1 = A 64 0 ∧ C 28 2 = lsF A 0 ∧ C 28 3 = lsN A 0 ∧ ∀ j, C 29 j = A 62 j) ∧ (C 30 1 = A 64 1 ∧ C 30 2 = lsF A 1 ∧ C 30 3 = lsN A 1 ∧ ∀ j, C 31 j = A 63 j)
section TT
variable {b0 fu : Nat} {σ τ : tM} {C A : tS} {D : tD}
theorem bys_u (v : Int32) {s : Nat} (hs : s = 0 ∨ s = 8 ∨ s = 16 ∨ s = 24) : ((v.toUInt32 >>> ((nI s).toUInt32 &&& Int32.toUInt32 31)).toInt32).toInt8.toInt32 = sb (v.toBitVec.toNat / 2 ^ s % 256) := by
  have hb := v.toBitVec.isLt
  have h1 : (v.toUInt32 >>> ((nI s).toUInt32 &&& Int32.toUInt32 31)).toInt32.toBitVec.toNat = v.toBitVec.toNat / 2 ^ s := pk_ushr v (nI s) s (by rcases hs with rfl | rfl | rfl | rfl <;> decide)
  have h3 : (nI (v.toBitVec.toNat / 2 ^ s % 256)).toInt = ((v.toBitVec.toNat / 2 ^ s % 256 : Nat) : Int) := nI_toInt (by have := Nat.mod_lt (v.toBitVec.toNat / 2 ^ s) (show 0 < 256 by decide); omega)
  have h4 := i32_int (v.toUInt32 >>> ((nI s).toUInt32 &&& Int32.toUInt32 31)).toInt32
  rw [h1] at h4
  unfold sb
  rw [i8_of (x := (v.toUInt32 >>> ((nI s).toUInt32 &&& Int32.toUInt32 31)).toInt32) (y := nI (v.toBitVec.toNat / 2 ^ s % 256))]
  rw [h3, h4]
  split <;> omega
theorem ap3 {v : Int32} : ∀ m f σ C, CM b0 σ C D → C 26 1 + m ≤ 4000 → m ≤ 4 → m < f → wp (FC b0) σ (L_X6_append_3 b0 fu f (b0 + 26) v (iz ((8 * m : Nat) - 8 : Int)) σ) (fun _ τ => CM b0 τ (tpN v m C) D) := by
  intro m
  induction m with
  | zero =>
    intro f σ C h ht hm hf
    obtain ⟨f, rfl⟩ : ∃ q, f = q + 1 := ⟨f - 1, by omega⟩
    unfold L_X6_append_3 J_X6_append_46
    rw [ltb_def, if_pos (show iz ((8 * 0 : Nat) - 8 : Int) < 0 by decide)]
    exact wp_ret ((FC_good b0).1 _) h
  | succ m ih =>
    intro f σ C h ht hm hf
    obtain ⟨f, rfl⟩ : ∃ q, f = q + 1 := ⟨f - 1, by omega⟩
    have L := h.lay
    have e1 : iz ((8 * (m + 1) : Nat) - 8 : Int) = nI (8 * m) := by rw [show ((8 * (m + 1) : Nat) - 8 : Int) = ((8 * m : Nat) : Int) by omega, iz_n]
    have e2 : nI (8 * m) + Int32.ofInt (-8) = iz ((8 * m : Nat) - 8 : Int) := by
      have : m = 0 ∨ m = 1 ∨ m = 2 ∨ m = 3 := by omega
      rcases this with rfl | rfl | rfl | rfl <;> decide
    have bv : v.toBitVec.toNat / 2 ^ (8 * m) % 256 < 256 := Nat.mod_lt _ (by omega)
    unfold L_X6_append_3
    rw [ltb_def, e1, if_neg (nI_pos (by omega)), ckC_26 L, cf_26_1 h.ca]
    show wp (FC b0) σ (if nI 4000 ≤ nI (C 26 1) then _ else _) _
    rw [if_l (by omega) (by omega), if_neg (by omega), osm_p (rfC_26_0 L), ckC_27 L, ckI_n (by omega) (by omega), nI_cl (by omega), ltb_def, pk_vb, bys_u v (by omega)]
    have k1 := CM_fix (o := 27) (j := C 26 1) (x := v.toBitVec.toNat / 2 ^ (8 * m) % 256) (v := sb (v.toBitVec.toNat / 2 ^ (8 * m) % 256)) h rfl rfl bv
    rw [cf_26_1 k1.ca, up2_o (by decide), show nI (C 26 1) + (1 : Int32) = nI (C 26 1 + 1) from nI_add _ 1, ltb_def, e2]
    have k2 := CM_fix (o := 26) (j := 1) (x := C 26 1 + 1) (v := nI (C 26 1 + 1)) k1 rfl rfl (by show _ < 2147483648; omega)
    refine wp_from (FC_good b0) (FC_2 (FC_sI h.rf (by omega)) (FC_sI (o := 26) (j := 1) (v := nI (C 26 1 + 1)) k1.rf (by omega))) ?_
    exact ih f _ _ k2 (by rw [up2_s]; omega) (by omega) (by omega)
theorem append_c {v : Int32} (h : CM b0 σ C D) (ht : C 26 1 + 4 ≤ 4000) (hu : 100 ≤ fu) : wp (FC b0) σ (m_X6_append b0 fu (b0 + 26) v σ) (fun _ τ => CM b0 τ (tpN v 4 C) D) := wp_grw (FC_good b0) (ap3 4 fu σ C h ht (Nat.le_refl _) (by omega))
/-- what four bytes leave -/
theorem ap4 {v : Int32} : tpN v 4 C 26 1 = C 26 1 + 4 ∧ (∀ p, p ≠ 26 → p ≠ 27 → tpN v 4 C p = C p) ∧ ∀ j, tpN v 4 C 27 j = if C 26 1 ≤ j ∧ j < C 26 1 + 4 then v.toBitVec.toNat / 2 ^ (24 - 8 * (j - C 26 1)) % 256 else C 27 j := by
  have key : ∀ m (C : tS), m ≤ 4 → tpN v m C 26 1 = C 26 1 + m ∧ (∀ p, p ≠ 26 → p ≠ 27 → tpN v m C p = C p) ∧ ∀ j, tpN v m C 27 j = if C 26 1 ≤ j ∧ j < C 26 1 + m then v.toBitVec.toNat / 2 ^ (8 * (m - 1 - (j - C 26 1))) % 256 else C 27 j := by
    intro m
    induction m with
    | zero =>
      intro C _
      refine ⟨rfl, fun _ _ _ => rfl, fun j => ?_⟩
      rw [if_neg (by omega)]
      rfl
    | succ m ih =>
      intro C hm
      obtain ⟨i1, i2, i3⟩ := ih (up2 (up2 C 27 (C 26 1) (v.toBitVec.toNat / 2 ^ (8 * m) % 256)) 26 1 (C 26 1 + 1)) (by omega)
      rw [up2_s] at i1 i3
      refine ⟨?_, fun p h1 h2 => ?_, fun j => ?_⟩
      · show tpN v m _ 26 1 = _
        rw [i1]
        omega
      · show tpN v m _ p = _
        rw [i2 p h1 h2, up2_rown h1, up2_rown h2]
      · show tpN v m _ 27 j = _
        rw [i3 j]
        by_cases c : j = C 26 1
        · rw [if_neg (by omega), if_pos (by omega), up2_o (by decide), c, up2_s, show m + 1 - 1 - (C 26 1 - C 26 1) = m by omega]
        · by_cases c2 : C 26 1 + 1 ≤ j ∧ j < C 26 1 + 1 + m
          · rw [if_pos c2, if_pos (by omega), show m - 1 - (j - (C 26 1 + 1)) = m + 1 - 1 - (j - C 26 1) by omega]
          · rw [if_neg c2, if_neg (by omega), up2_o (by decide), up2_j c]
  obtain ⟨k1, k2, k3⟩ := key 4 C (Nat.le_refl _)
  refine ⟨k1, k2, fun j => ?_⟩
  rw [k3 j]
  by_cases c : C 26 1 ≤ j ∧ j < C 26 1 + 4
  · rw [if_pos c, if_pos c, show 8 * (4 - 1 - (j - C 26 1)) = 24 - 8 * (j - C 26 1) by omega]
  · rw [if_neg c, if_neg c]
theorem fdN_at (v : Nat → Int32) (t : Nat) : ∀ m k (A : tS) o j, fdN v t m k A o j = if o = 70 ∧ t + k ≤ j ∧ j < t + k + m then fdV v (j - t) else A o j
  | 0, k, A, o, j => by
    rw [if_neg (by omega)]
    rfl
  | m + 1, k, A, o, j => by
    show fdN v t m (k + 1) (up2 A 70 (t + k) (fdV v k)) o j = _
    rw [fdN_at v t m (k + 1)]
    by_cases c : o = 70 ∧ t + (k + 1) ≤ j ∧ j < t + (k + 1) + m
    · rw [if_pos c, if_pos (by omega)]
    · rw [if_neg c]
      by_cases c2 : o = 70 ∧ j = t + k
      · obtain ⟨rfl, rfl⟩ := c2
        rw [up2_s, if_pos (by omega), show t + k - t = k by omega]
      · rw [if_neg (by omega)]
        by_cases c3 : o = 70
        · subst c3
          rw [up2_j (fun e => c2 ⟨rfl, e⟩)]
        · rw [up2_o c3]
theorem lsF_62 {A B : tS} {w : Nat} (h1 : B (62 + w) = A (62 + w)) (h2 : B 64 w = A 64 w) : lsF B w = lsF A w ∧ lsN B w = lsN A w := by
  unfold lsF lsN
  rw [h1, h2]
  exact ⟨rfl, rfl⟩
theorem feed_c {a b c d e : Int32} (h : CM b0 σ C D) (hT : TP C A) (h4 : A 35 57 ≤ 4000) (hu : 100 ≤ fu) : wp (FC b0) σ (m_X10_feed b0 fu (b0 + 0) a b c d e σ) (fun v τ => v = iz (feA (v5 a b c d e) A).1 ∧ ∃ C', CM b0 τ C' D ∧ TP C' (feA (v5 a b c d e) A).2 ∧ ∀ p, p ≠ 26 → p ≠ 27 → C' p = C p) := by
  have L := h.lay
  obtain ⟨t1, t2, t3, t4⟩ := hT
  refine wp_grw (FC_good b0) ?_
  have hs : m_X6_hasSpace b0 fu (b0 + 26) σ = some (nI (if A 35 57 + 20 ≤ 4000 then 1 else 0), σ) := by
    unfold m_X6_hasSpace J_X6_hasSpace_18
    rw [ckC_26 L, cf_26_1 h.ca, t1, show nI (A 35 57) + (20 : Int32) = nI (A 35 57 + 20) from nI_add _ 20]
    show grw σ (if nI 4000 < nI (A 35 57 + 20) then ckZ (nI 0) _ else ckZ (nI 1) _) = _
    rw [if_t (by omega) (by omega), ckZ_0, ckZ_1]
    by_cases q : A 35 57 + 20 ≤ 4000
    · rw [if_neg (by omega), if_pos q]
      exact grw_same
    · rw [if_pos (by omega), if_neg q]
      exact grw_same
  rw [ckC_0 L, osm_p (rfC_0_6 L), ckC_26 L, hs, cll_some]
  unfold feA
  by_cases q : A 35 57 + 20 ≤ 4000
  · rw [if_pos q, if_neg (show ¬ nI 1 = 0 by decide), if_neg (by omega), ckC_0 L, osm_p (rfC_0_6 L), ckC_26 L]
    refine wp_bind (FC_good b0) (append_c (fu := fu) h (by omega) hu) ?_
    intro _ ρ1 q1
    obtain ⟨a1, a2, a3⟩ := ap4 (C := C) (v := a)
    have L1 := q1.lay
    generalize tpN a 4 C = C1 at *
    rw [ckC_0 L1, osm_p (rfC_0_6 L1), ckC_26 L1]
    refine wp_bind (FC_good b0) (append_c (fu := fu) q1 (by omega) hu) ?_
    intro _ ρ2 q2
    obtain ⟨b1, b2, b3⟩ := ap4 (C := C1) (v := b)
    have L2 := q2.lay
    generalize tpN b 4 C1 = C2 at *
    rw [ckC_0 L2, osm_p (rfC_0_6 L2), ckC_26 L2]
    refine wp_bind (FC_good b0) (append_c (fu := fu) q2 (by omega) hu) ?_
    intro _ ρ3 q3
    obtain ⟨c1, c2, c3⟩ := ap4 (C := C2) (v := c)
    have L3 := q3.lay
    generalize tpN c 4 C2 = C3 at *
    rw [ckC_0 L3, osm_p (rfC_0_6 L3), ckC_26 L3]
    refine wp_bind (FC_good b0) (append_c (fu := fu) q3 (by omega) hu) ?_
    intro _ ρ4 q4
    obtain ⟨d1, d2, d3⟩ := ap4 (C := C3) (v := d)
    have L4 := q4.lay
    generalize tpN d 4 C3 = C4 at *
    rw [ckC_0 L4, osm_p (rfC_0_6 L4), ckC_26 L4]
    refine wp_bind (FC_good b0) (append_c (fu := fu) q4 (by omega) hu) ?_
    intro _ ρ5 q5
    obtain ⟨e1, e2, e3⟩ := ap4 (C := C4) (v := e)
    have L5 := q5.lay
    generalize tpN e 4 C4 = C5 at *
    rw [ckC_0 L5, osm_p (rfC_0_6 L5), ckC_26 L5, cf_26_1 q5.ca, show C5 26 1 = A 35 57 + 20 by omega]
    have oo : ∀ p, p ≠ 26 → p ≠ 27 → C5 p = C p := fun p h1 h2 => by rw [e2 p h1 h2, d2 p h1 h2, c2 p h1 h2, b2 p h1 h2, a2 p h1 h2]
    have fo : ∀ o, o ≠ 70 → fdN (v5 a b c d e) (A 35 57) 20 0 (up2 A 35 0 0) o = up2 A 35 0 0 o := fun o ho => by funext j; rw [fdN_at, if_neg (fun r => ho r.1)]
    refine wp_ret ((FC_good b0).1 _) ⟨(iz_n _).symm, C5, q5, ⟨?_, fun j => ?_, ?_, ?_⟩, oo⟩
    · dsimp only
      rw [up2_s]
      omega
    · dsimp only
      rw [up2_o (by decide)]
      rw [e3, d3, c3, b3, a3, b1, a1, c1, b1, a1, d1, c1, b1, a1, t1]
      by_cases r : A 35 57 + 0 ≤ j ∧ j < A 35 57 + 0 + 20
      · rw [fdN_at (v5 a b c d e) (A 35 57) 20 0 (up2 A 35 0 0) 70 j, if_pos (show (70:Nat) = 70 ∧ _ from ⟨rfl, r⟩)]
        unfold fdV v5
        by_cases r1 : j < A 35 57 + 4
        · rw [if_neg (by omega), if_neg (by omega), if_neg (by omega), if_neg (by omega), if_pos (by omega), if_pos (by omega), show (j - A 35 57) % 4 = j - A 35 57 by omega]
        · by_cases r2 : j < A 35 57 + 8
          · rw [if_neg (by omega), if_neg (by omega), if_neg (by omega), if_pos (by omega), if_neg (by omega), if_pos (by omega), show (j - A 35 57) % 4 = j - (A 35 57 + 4) by omega]
          · by_cases r3 : j < A 35 57 + 12
            · rw [if_neg (by omega), if_neg (by omega), if_pos (by omega), if_neg (by omega), if_neg (by omega), if_pos (by omega), show (j - A 35 57) % 4 = j - (A 35 57 + 4 + 4) by omega]
            · by_cases r4 : j < A 35 57 + 16
              · rw [if_neg (by omega), if_pos (by omega), if_neg (by omega), if_neg (by omega), if_neg (by omega), if_pos (by omega), show (j - A 35 57) % 4 = j - (A 35 57 + 4 + 4 + 4) by omega]
              · rw [if_pos (by omega), if_neg (by omega), if_neg (by omega), if_neg (by omega), if_neg (by omega), show (j - A 35 57) % 4 = j - (A 35 57 + 4 + 4 + 4 + 4) by omega]
      · rw [fdN_at (v5 a b c d e) (A 35 57) 20 0 (up2 A 35 0 0) 70 j, if_neg (show ¬ ((70:Nat) = 70 ∧ _) from fun z => r z.2), if_neg (by omega), if_neg (by omega), if_neg (by omega), if_neg (by omega), if_neg (by omega), up2_o (by decide)]
        exact t2 j
    · have z := lsF_62 (A := A) (B := up2 (fdN (v5 a b c d e) (A 35 57) 20 0 (up2 A 35 0 0)) 35 57 (A 35 57 + 20)) (w := 0) (by rw [up2_rown (by decide), fo 62 (by decide), up2_rown (by decide)]) (by rw [up2_o (by decide), fo 64 (by decide), up2_o (by decide)])
      dsimp only
      rw [oo 28 (by decide) (by decide), oo 29 (by decide) (by decide), z.1, z.2, up2_o (by decide), fo 64 (by decide), up2_o (by decide), up2_rown (by decide), fo 62 (by decide), up2_rown (by decide)]
      exact t3
    · have z := lsF_62 (A := A) (B := up2 (fdN (v5 a b c d e) (A 35 57) 20 0 (up2 A 35 0 0)) 35 57 (A 35 57 + 20)) (w := 1) (by rw [up2_rown (by decide), fo 63 (by decide), up2_rown (by decide)]) (by rw [up2_o (by decide), fo 64 (by decide), up2_o (by decide)])
      dsimp only
      rw [oo 30 (by decide) (by decide), oo 31 (by decide) (by decide), z.1, z.2, up2_o (by decide), fo 64 (by decide), up2_o (by decide), up2_rown (by decide), fo 63 (by decide), up2_rown (by decide)]
      exact t4
  · rw [if_neg q, if_pos (show nI 0 = 0 from rfl), if_pos (by omega)]
    refine wp_ret ((FC_good b0).1 _) ⟨rfl, C, h, ⟨?_, fun j => ?_, ?_, ?_⟩, fun _ _ _ => rfl⟩
    · dsimp only
      rw [up2_j (by decide)]
      exact t1
    · dsimp only
      rw [up2_o (by decide)]
      exact t2 j
    · have z := lsF_62 (A := A) (B := up2 A 35 0 0) (w := 0) (up2_rown (by decide)) (up2_o (by decide))
      dsimp only
      rw [z.1, z.2, up2_o (by decide), up2_rown (by decide)]
      exact t3
    · have z := lsF_62 (A := A) (B := up2 A 35 0 0) (w := 1) (up2_rown (by decide)) (up2_o (by decide))
      dsimp only
      rw [z.1, z.2, up2_o (by decide), up2_rown (by decide)]
      exact t4
end TT
