/-! ===== PURE: the class's Space: adopt, revoke, mark, load, groupSize, emptyGroup, forgetMarks, freeRetired ===== -/
/-- the words of a cell anew -/
def ldR (C : tS) (c : Nat) (w : Nat → Nat) : tS := fun p q => if p = 11 ∧ c * 32 ≤ q ∧ q < c * 32 + 32 then w (q - c * 32) else C p q
def gpC (C : tS) : Nat := C 10 11 + (C 10 11 + C 10 12 + 119) / 120
section SQ
variable {b0 fu : Nat} {σ τ : tM} {C : tS} {D : tD}
theorem adopt_c (h : CM b0 σ C D) (hc : ci C) {c b n : Nat} (hx : c < 2147483648) (hb : b < 2147483648) (hn : n < 64) : wp (FC b0) σ (m_X5_adopt b0 fu (b0 + 10) (nI c) (nI b) (nI n) σ) (fun _ τ => CM b0 τ (adoC C c b n) D) := by
  have L := h.lay
  have := hc.1.2.1
  refine wp_grw (FC_good b0) ?_
  unfold J_X5_adopt_36 adoC
  show wp (FC b0) σ (if nI c < nI 34 then _ else _) _
  rw [if_t hx (by omega), ckC_10 L, cf_10_7 h.ca, if_l (by omega) hx]
  by_cases e0 : c < 34
  · rw [if_pos e0, if_neg (by omega)]
    exact wp_ret ((FC_good b0).1 _) h
  rw [if_neg e0]
  by_cases e1 : C 10 7 ≤ c
  · rw [if_pos e1, if_neg (by omega)]
    exact wp_ret ((FC_good b0).1 _) h
  rw [if_neg e1, if_pos ⟨by omega, by omega⟩, osm_p (rfC_10_1 L), ckC_12 L, ckI_n (by omega) (by omega), nI_cl hx]
  have h1 : CM b0 (sI σ (b0 + 12) c (-1)) (up2 C 12 c 0) D := CM_fix (o := 12) h rfl (show (-1 : Int32) = nI 0 - 1 by decide) (by decide)
  have L1 := h1.lay
  rw [osm_p (rfC_10_2 L1), ckC_13 L1, ckI_n (by omega) (by omega)]
  have h2 : CM b0 (sI (sI σ (b0 + 12) c (-1)) (b0 + 13) c (nI b)) (up2 (up2 C 12 c 0) 13 c b) D := CM_fix (o := 13) h1 rfl rfl hb
  have L2 := h2.lay
  rw [osm_p (rfC_10_3 L2), ckC_14 L2, ckI_n (by omega) (by omega), pk_vb]
  have e2 : (nI n).toInt8.toInt32 = nI n := by
    have : ∀ y : Fin 64, (nI y.val).toInt8.toInt32 = nI y.val := by decide
    exact this ⟨n, hn⟩
  rw [e2]
  exact wp_ret (FC_2 (FC_sI h.rf (by omega)) (FC_2 (FC_sI h1.rf (by omega)) (FC_sI h2.rf (by omega)))) (CM_fix (o := 14) (j := c) (x := n) h2 rfl rfl (by show _ < 128; omega))
theorem revoke_c (h : CM b0 σ C D) (hc : ci C) {c : Nat} (hx : c < 2034) : wp (FC b0) σ (m_X5_revoke b0 fu (b0 + 10) (nI c) σ) (fun _ τ => CM b0 τ (rvkC C c) D) := by
  have key : ∀ (σ : tM) (C : tS), CM b0 σ C D → C 10 12 ≤ 2034 → wp (FC b0) σ (J_X5_revoke_26 b0 fu (b0 + 10) (nI c) σ) (fun _ τ => CM b0 τ (if C 16 c = 0 then up2 (up2 C 16 c 1) 10 12 (C 10 12 + 1) else C) D) := by
    intro σ C h hb
    have L := h.lay
    have b := cb_16 h.ca c
    unfold J_X5_revoke_26 J_X5_revoke_52
    rw [ckC_10 L, osm_p (rfC_10_5 L), ckC_16 L, ckI_n hx (by omega), nI_cl (by omega), cd_16 h.ca, osm_p (rfC_10_5 L), ckC_16 L, ckI_n hx (by omega)]
    show wp (FC b0) σ (if nI (C 16 c) = nI 0 then _ else _) _
    rw [if_e (by omega) (by omega)]
    by_cases e2 : C 16 c = 0
    · rw [if_pos e2, if_pos e2]
      have h1 : CM b0 (sI σ (b0 + 16) c (vp_nar .byte 1)) (up2 C 16 c 1) D := CM_fix (o := 16) h rfl vy1 (by decide)
      rw [cf_10_12 h1.ca, up2_o (by decide), show nI (C 10 12) + (1 : Int32) = nI (C 10 12 + 1) from nI_add _ 1]
      exact wp_ret (FC_2 (FC_sI h.rf (by omega)) (FC_sI h1.rf (by omega))) (CM_fix (o := 10) (j := 12) (x := C 10 12 + 1) h1 rfl rfl (by show _ < 2147483648; omega))
    · rw [if_neg e2, if_neg e2]
      exact wp_ret ((FC_good b0).1 _) h
  have L := h.lay
  have b := cb_15 h.ca c
  have bb := ci_b hc
  refine wp_grw (FC_good b0) ?_
  rw [ckC_10 L, osm_p (rfC_10_4 L), ckC_15 L, ckI_n hx (by omega), nI_cl (by omega), cd_15 h.ca, osm_p (rfC_10_4 L), ckC_15 L, ckI_n hx (by omega)]
  show wp (FC b0) σ (if nI (C 15 c) = nI 0 then _ else _) _
  rw [if_e (by omega) (by omega)]
  unfold rvkC rv0
  by_cases e2 : C 15 c = 0
  · rw [if_pos e2, if_pos e2]
    exact key σ C h bb.2.1
  · rw [if_neg e2, if_neg e2]
    have p1 : 0 < C 10 11 := by
      rw [hc.2.1.1]
      exact cn_pos (x := c) (by simp [e2]) 2034 0 (by omega) (by omega)
    have h1 : CM b0 (sI σ (b0 + 15) c (vp_nar .byte 0)) (up2 C 15 c 0) D := CM_fix (o := 15) h rfl vy0 (by decide)
    rw [cf_10_11 h1.ca, up2_o (by decide), show nI (C 10 11) - (1 : Int32) = nI (C 10 11 - 1) from nI_sb (b := 1) (by omega)]
    have h2 : CM b0 (sI (sI σ (b0 + 15) c (vp_nar .byte 0)) (b0 + 10) 11 (nI (C 10 11 - 1))) (up2 (up2 C 15 c 0) 10 11 (C 10 11 - 1)) D := CM_fix (o := 10) (j := 11) h1 rfl rfl (by show _ < 2147483648; omega)
    exact wp_from (FC_good b0) (FC_2 (FC_sI h.rf (by omega)) (FC_sI h1.rf (by omega))) (key _ _ h2 (by rw [up2_j (by decide), up2_o (by decide)]; exact bb.2.1))
theorem mark_c (h : CM b0 σ C D) {c : Nat} (h1 : 34 ≤ c) (h2 : c < 2034) (g : Bool) : wp (FC b0) σ (m_X5_mark b0 fu (b0 + 10) (nI c) (nI (b2n g)) σ) (fun _ τ => CM b0 τ (mrkC C c g) D) := by
  have L := h.lay
  have bw := cb_11 h.ca (32 + (c - 34) / 64)
  have e1 : nI c - (34 : Int32) = nI (c - 34) := nI_sb (b := 34) h1
  have e2 : nI (c - 34) >>> ((6 : Int32) &&& 31) = nI ((c - 34) / 64) := pk_shrN (by omega) _ 6 (by decide)
  have e3 : nI ((c - 34) / 64) &&& (31 : Int32) = nI ((c - 34) / 64) := by
    rw [show nI ((c - 34) / 64) &&& (31 : Int32) = nI ((c - 34) / 64 % 32) from pk_andN (by omega) 5 (by decide), Nat.mod_eq_of_lt (by omega)]
  have e4 : (32 : Int32) + nI ((c - 34) / 64) = nI (32 + (c - 34) / 64) := nI_add 32 _
  have e5 : nI (c - 34) &&& (63 : Int32) = nI ((c - 34) % 64) := pk_andN (by omega) 6 (by decide)
  have e6 : (1 : Int64) <<< ((nI ((c - 34) % 64)).toInt64 &&& 63) = lN (1 * 2 ^ ((c - 34) % 64)) := wb_shl 1 (by omega)
  have hp : 2 ^ ((c - 34) % 64) < 2 ^ 64 := wb_lt2 (by omega)
  refine wp_grw (FC_good b0) ?_
  unfold J_X5_mark_62 mrkC
  rw [ltb_def, ltb_def, ltb_def, ckC_10 L, e1, e2, e3, e4, e5, e6, Nat.one_mul, osm_p (rfC_10_0 L), osm_p (rfC_10_0 L), ckC_11 L, ckI_n (by omega) (by omega), nI_cl (by omega), cd_11 h.ca]
  show wp (FC b0) σ (if nI (b2n g) = nI 0 then _ else _) _
  have key := fun v (hv : v < 2 ^ 1) => wb_fld (w := C 11 (32 + (c - 34) / 64)) (s := (c - 34) % 64) (d := 1) (v := v) bw (by omega) (by omega) hv
  cases g with
  | false =>
    have k0 := key 0 (by decide)
    rw [show lN (2 ^ 1 - 1) = (1 : Int64) from rfl, e6, Nat.one_mul, show lN 0 <<< ((nI ((c - 34) % 64)).toInt64 &&& 63) = lN (0 * 2 ^ ((c - 34) % 64)) from wb_shl 0 (by omega), Nat.zero_mul] at k0
    rw [if_pos (show nI (b2n false) = nI 0 from rfl), ckC_11 L, ckI_n (by omega) (by omega)]
    have k1 : lN (C 11 (32 + (c - 34) / 64)) &&& (lN (2 ^ ((c - 34) % 64)) ^^^ (-1)) = lN (setF (C 11 (32 + (c - 34) / 64)) ((c - 34) % 64) 1 0) := by
      rw [← k0]
      exact (Int64.or_zero).symm
    rw [k1]
    exact wp_ret (FC_sL h.rf (by omega)) (CM_fixL h (setF_lt (d := 1) (by decide) (by omega) bw))
  | true =>
    have k0 : lN (C 11 (32 + (c - 34) / 64)) ||| lN (2 ^ ((c - 34) % 64)) = lN (setF (C 11 (32 + (c - 34) / 64)) ((c - 34) % 64) 1 1) := by
      rw [wb_or bw hp]
      congr 1
      apply Nat.eq_of_testBit_eq
      intro j
      rw [Nat.testBit_or, setF_bit (by decide), Nat.testBit_two_pow]
      by_cases q1 : j < (c - 34) % 64
      · rw [if_pos q1]
        simp [show ¬ (c - 34) % 64 = j by omega]
      · rw [if_neg q1]
        by_cases q2 : j < (c - 34) % 64 + 1
        · have : (c - 34) % 64 = j := by omega
          rw [if_pos q2, this]
          simp
        · rw [if_neg q2]
          simp [show ¬ (c - 34) % 64 = j by omega]
    rw [if_neg (show ¬ nI (b2n true) = nI 0 by decide), osm_p (rfC_10_0 L), ckC_11 L, ckI_n (by omega) (by omega), cd_11 h.ca, ckC_11 L, ckI_n (by omega) (by omega), k0]
    exact wp_ret (FC_sL h.rf (by omega)) (CM_fixL h (setF_lt (d := 1) (by decide) (by omega) bw))
theorem load37 {c : Nat} (hc : c < 2034) : ∀ m k f σ C, CM b0 σ C D → k + m = 32 → m < f → wp (FC b0) σ (L_X5_load_37 b0 fu f (b0 + 10) (nI c) (nI k) σ) (fun _ τ => CM b0 τ (fl 11 0 (c * 32 + k) m C) D) := by
  intro m
  induction m with
  | zero =>
    intro k f σ C h hk hf
    obtain ⟨f, rfl⟩ : ∃ q, f = q + 1 := ⟨f - 1, by omega⟩
    unfold L_X5_load_37
    rw [ltb_def, show (32 : Int32) = nI 32 from rfl, if_l (by omega) (by omega), if_pos (by omega)]
    exact wp_ret ((FC_good b0).1 _) h
  | succ m ih =>
    intro k f σ C h hk hf
    obtain ⟨f, rfl⟩ : ∃ q, f = q + 1 := ⟨f - 1, by omega⟩
    have L := h.lay
    unfold L_X5_load_37
    rw [ltb_def, ckC_10 L, osm_p (rfC_10_0 L), ckC_11 L, ix32, show (32 : Int32) = nI 32 from rfl, if_l (by omega) (by omega), if_neg (by omega), ckI_n (by omega) (by omega), nI_cl (by omega), ltb_def, ofi]
    refine wp_from (FC_good b0) (FC_sL (o := 11) (j := c * 32 + k) (v := 0) h.rf (by omega)) ?_
    exact ih (k + 1) f _ _ (CM_fixL (j := c * 32 + k) (x := 0) h (by decide)) (by omega) (by omega)
theorem load0_c (h : CM b0 σ C D) {c : Nat} (h0 : 0 < c) (h1 : c < 2034) (hu : 100 ≤ fu) : wp (FC b0) σ (m_X5_load b0 fu (b0 + 10) (nI c) none σ) (fun _ τ => CM b0 τ (ldR C c (fun _ => 0)) D) := by
  refine wp_grw (FC_good b0) ?_
  show wp (FC b0) σ (if nI c ≤ nI 0 then _ else if nI c < nI 2034 then L_X5_load_37 b0 fu fu (b0 + 10) (nI c) 0 σ else _) _
  rw [if_l (by omega) (by omega), if_neg (by omega), if_t (by omega) (by omega), if_pos h1]
  refine wp_mono (load37 h1 32 0 fu σ C h (by omega) (by omega)) ?_
  intro _ ρ _ q
  have e : fl 11 0 (c * 32 + 0) 32 C = ldR C c (fun _ => 0) := by
    funext p q
    rw [fl_at]
    rfl
  rw [e] at q
  exact q
theorem CM_rowL {F : Nat → Int64} {X : Nat → Nat} (h : CM b0 σ C D) (hF : ∀ j, F j = lN (X j)) (hX : ∀ j, X j < 18446744073709551616) : CM b0 (sLr σ (b0 + 11) F) (upR C 11 X) D := by
  obtain ⟨h1, h2, h3, pl, h5⟩ := h
  have ss : ∀ x, x ≠ b0 + 11 → same σ (sLr σ (b0 + 11) F) x := fun x hx => ⟨rfl, rfl, by
    show va_up (tL σ) (b0 + 11) F x = tL σ x
    unfold va_up
    rw [if_neg hx], rfl⟩
  refine ⟨⟨h1.1, fun o j e => ?_, fun j => ?_, fun o j => ?_⟩, h2, h3, pl, DY_same h5 (Nat.le_refl _) (fun a _ q => q) (fun _ _ _ => rfl) ⟨rfl, rfl, rfl⟩ (fun a q1 _ _ _ => ss a (by omega))⟩
  · have n11 : o ≠ 11 := fun r => by subst r; cases e
    show tI σ (b0 + o) j = decC o j (upR C 11 X o j)
    unfold upR
    rw [if_neg n11]
    exact h1.2.1 o j e
  · show va_up (tL σ) (b0 + 11) F (b0 + 11) j = lN (upR C 11 X 11 j)
    unfold va_up upR
    rw [if_pos rfl, if_pos rfl]
    exact hF j
  · unfold upR
    split
    · rename_i e
      subst e
      exact hX j
    · exact h1.2.2.2 o j
theorem FC_sLr {o : Nat} {F : Nat → Int64} (h : rfO b0 σ) (ho : o < 35) : FC b0 σ (sLr σ (b0 + o) F) := ⟨Nat.le_refl _, Nat.le_refl _, fun a ha => ⟨rfl, rfl, by
  show va_up (tL σ) (b0 + o) F a = tL σ a
  unfold va_up
  rw [if_neg (fun e => by
    rcases ha with q | q
    · have := (h a q).1; omega
    · omega)], rfl⟩⟩
theorem loadR_c (h : CM b0 σ C D) {c a : Nat} {w : Nat → Nat} (h0 : 0 < c) (h1 : c < 2034) (hr : isRow b0 σ a w) : wp (FC b0) σ (m_X5_load b0 fu (b0 + 10) (nI c) (some a) σ) (fun _ τ => CM b0 τ (ldR C c w) D) := by
  have L := h.lay
  obtain ⟨r1, r2, r3, r4, r5, r6⟩ := hr
  refine wp_grw (FC_good b0) ?_
  show wp (FC b0) σ (if nI c ≤ nI 0 then _ else if nI c < nI 2034 then omt (some a) _ _ else _) _
  rw [if_l (by omega) (by omega), if_neg (by omega), if_t (by omega) (by omega), if_pos h1]
  show wp (FC b0) σ (ckO b0 σ a 4 (osm (tA σ a 0) _)) _
  rw [ckO_p r1 ⟨by omega, by omega⟩, osm_p r3, ckC_10 L, osm_p (rfC_10_0 L), ckR_p r2 ⟨by omega, by omega⟩, ckC_11 L]
  have ckc : ∀ (k : Option (Unit × tM)), ckC 0 (nI c * 32) 32 32 65536 k = k := fun k => by
    unfold ckC
    rw [show nI c * (32 : Int32) = nI (c * 32) from pk_mul c 32, nI_cl (by omega), show (0 : Int32).toNatClampNeg = 0 from rfl, show (32 : Int32).toNatClampNeg = 32 from rfl, if_pos ⟨⟨by decide, nI_pos (by omega), by decide⟩, by omega, by omega⟩]
  rw [ckc, show nI c * (32 : Int32) = nI (c * 32) from pk_mul c 32, nI_cl (by omega), show (0 : Int32).toNatClampNeg = 0 from rfl, show (32 : Int32).toNatClampNeg = 32 from rfl]
  refine wp_ret (FC_sLr h.rf (by omega)) ?_
  have := CM_rowL (F := va_cpy (tL σ (a + 1)) (tL σ (b0 + 11)) 0 (c * 32) 32) (X := fun q => if c * 32 ≤ q ∧ q < c * 32 + 32 then w (q - c * 32) else C 11 q) h (fun j => ?_) (fun j => ?_)
  · have e : upR C 11 (fun q => if c * 32 ≤ q ∧ q < c * 32 + 32 then w (q - c * 32) else C 11 q) = ldR C c w := by
      funext p q
      unfold upR ldR
      by_cases e : p = 11
      · subst e
        simp
      · simp [e]
    rw [e] at this
    exact this
  · by_cases q : c * 32 ≤ j ∧ j < c * 32 + 32
    · rw [pk_cpy_in q.1 q.2]
      simp only [if_pos q]
      rw [Nat.zero_add]
      exact (r6 _).1
    · rw [pk_cpy_out (by omega)]
      simp only [if_neg q]
      exact cd_11 h.ca j
  · by_cases q : c * 32 ≤ j ∧ j < c * 32 + 32
    · simp only [if_pos q]
      exact (r6 _).2
    · simp only [if_neg q]
      exact cb_11 h.ca j
theorem groupSize_c (h : CA b0 σ C) (hc : ci C) : m_X5_groupSize b0 fu (b0 + 10) σ = some (nI (gpC C), σ) := by
  have b := ci_b hc
  unfold m_X5_groupSize gpC
  rw [ckC_10 h.lay, cf_10_11 h, cf_10_12 h, nI_add, show nI (C 10 11 + C 10 12) + (120 : Int32) = nI (C 10 11 + C 10 12 + 120) from nI_add _ 120, show nI (C 10 11 + C 10 12 + 120) - (1 : Int32) = nI (C 10 11 + C 10 12 + 119) from nI_sb (a := C 10 11 + C 10 12 + 120) (b := 1) (by omega), show nI (C 10 11 + C 10 12 + 119) / (120 : Int32) = nI ((C 10 11 + C 10 12 + 119) / 120) from nI_dv (d := 120) (by omega) (by omega) (by omega), nI_add]
  exact grw_same
end SQ
