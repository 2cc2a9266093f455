/-! ===== PURE: the class's Space: what is read, small writes ===== -/
/-- the counts of what is marked -/
def ci (C : tS) : Prop := (34 ≤ C 10 7 ∧ C 10 7 ≤ 2034 ∧ C 10 8 ≤ 4096) ∧ (C 10 11 = cn (fun c => C 15 c != 0) 0 2034 ∧ C 10 12 = cn (fun c => C 16 c != 0) 0 2034 ∧ C 10 13 = cn (fun c => C 17 c != 0) 0 2034) ∧
  (∀ c, c = 0 ∨ C 10 7 ≤ c → C 15 c = 0 ∧ C 16 c = 0 ∧ C 17 c = 0)
def nbC (C : tS) (c : Nat) : Nat := if 34 ≤ c then c + C 10 8 else c
def woC (C : tS) (c i : Nat) : Nat := if c < C 10 7 then C 11 (c * 32 + i) else 0
def ocC (C : tS) (c i : Nat) : Nat := if c < C 10 7 then by8 (C 11 (c * 32 + i / 8)) (i % 8) else 0
def fgC (C : tS) (o c : Nat) : Nat := if 0 < c ∧ c < C 10 7 ∧ C o c ≠ 0 then 1 else 0
def touC (C : tS) (c : Nat) : tS := if 0 < c ∧ c < C 10 7 ∧ C 15 c = 0 then up2 (up2 C 15 c 1) 10 11 (C 10 11 + 1) else C
def soiC (C : tS) (c : Nat) : tS := if 0 < c ∧ c < C 10 7 ∧ C 17 c = 0 then up2 (up2 C 17 c 1) 10 13 (C 10 13 + 1) else C
def cleC (C : tS) (c : Nat) : tS := if 0 < c ∧ c < C 10 7 ∧ C 17 c ≠ 0 then up2 (up2 C 17 c 0) 10 13 (C 10 13 - 1) else C
def sooC (C : tS) (c i v : Nat) : tS := if 0 < c ∧ c < C 10 7 then up2 C 11 (c * 32 + i / 8) (setF (C 11 (c * 32 + i / 8)) (8 * (i % 8)) 8 (v % 256)) else C
def swoC (C : tS) (c i v : Nat) : tS := if 0 < c ∧ c < C 10 7 then touC (up2 C 11 (c * 32 + i) v) c else C
def adoC (C : tS) (c b n : Nat) : tS := if 34 ≤ c ∧ c < C 10 7 then up2 (up2 (up2 C 12 c 0) 13 c b) 14 c n else C
def rv0 (C : tS) (c : Nat) : tS := if C 15 c = 0 then C else up2 (up2 C 15 c 0) 10 11 (C 10 11 - 1)
def rvkC (C : tS) (c : Nat) : tS := if rv0 C c 16 c = 0 then up2 (up2 (rv0 C c) 16 c 1) 10 12 (rv0 C c 10 12 + 1) else rv0 C c
def mrkC (C : tS) (c : Nat) (g : Bool) : tS := up2 C 11 (32 + (c - 34) / 64) (setF (C 11 (32 + (c - 34) / 64)) ((c - 34) % 64) 1 (b2n g))
section SP
variable {b0 fu : Nat} {σ τ : tM} {C : tS} {D : tD}
theorem ci_b (h : ci C) : C 10 11 ≤ 2034 ∧ C 10 12 ≤ 2034 ∧ C 10 13 ≤ 2034 := by
  obtain ⟨-, ⟨h1, h2, h3⟩, -⟩ := h
  rw [h1, h2, h3]
  exact ⟨cn_le _ _ _, cn_le _ _ _, cn_le _ _ _⟩
theorem numberOf_c (h : CA b0 σ C) {c : Nat} (hx : c < 2147483648) : m_X5_numberOf b0 fu (b0 + 10) (nI c) σ = some (nI (nbC C c), σ) := by
  unfold m_X5_numberOf J_X5_numberOf_16 nbC
  show grw σ (if nI 34 ≤ nI c then _ else _) = _
  rw [if_l (by omega) hx, ckC_10 h.lay, cf_10_8 h, nI_add]
  split <;> exact grw_same
theorem birthOf_c (h : CA b0 σ C) (hc : ci C) {c : Nat} (hx : c < C 10 7) : m_X5_birthOf b0 fu (b0 + 10) (nI c) σ = some (nI (C 13 c), σ) := by
  have L := h.lay
  have := hc.1.2.1
  unfold m_X5_birthOf J_X5_birthOf_22
  rw [if_neg (nI_pos (by omega)), ckC_10 L, cf_10_7 h, if_t (by omega) (by omega), if_pos hx, osm_p (rfC_10_2 L), ckC_13 L, ckI_n (by omega) (by omega), nI_cl (by omega), cd_13 h]
  exact grw_same
theorem ownerOf_c (h : CA b0 σ C) (hc : ci C) {c : Nat} (hx : c < C 10 7) : m_X5_ownerOf b0 fu (b0 + 10) (nI c) σ = some (nI (C 14 c), σ) := by
  have L := h.lay
  have := hc.1.2.1
  unfold m_X5_ownerOf J_X5_ownerOf_22
  rw [if_neg (nI_pos (by omega)), ckC_10 L, cf_10_7 h, if_t (by omega) (by omega), if_pos hx, osm_p (rfC_10_3 L), ckC_14 L, ckI_n (by omega) (by omega), nI_cl (by omega), cd_14 h]
  exact grw_same
theorem isTouched_c (h : CA b0 σ C) (hc : ci C) {c : Nat} (hx : c < 2147483648) : m_X5_isTouched b0 fu (b0 + 10) (nI c) σ = some (nI (fgC C 15 c), σ) := by
  have L := h.lay
  have := hc.1.2.1
  have b := cb_15 h c
  unfold m_X5_isTouched J_X5_isTouched_25 J_X5_isTouched_26 fgC
  show grw σ (if nI c ≤ nI 0 then ckZ (nI 0) _ else _) = _
  rw [if_l hx (by omega), ckC_10 L, cf_10_7 h, if_l (by omega) hx, ckZ_0]
  by_cases e0 : c ≤ 0
  · rw [if_pos e0, if_neg (by omega)]
    exact grw_same
  rw [if_neg e0]
  by_cases e1 : C 10 7 ≤ c
  · rw [if_pos e1, if_neg (by omega)]
    exact grw_same
  rw [if_neg e1, osm_p (rfC_10_4 L), ckC_15 L, ckI_n (by omega) (by omega), nI_cl hx, cd_15 h]
  show grw σ (if nI (C 15 c) = nI 0 then _ else ckZ (nI 1) _) = _
  rw [if_e (by omega) (by omega), ckZ_1]
  by_cases e2 : C 15 c = 0
  · rw [if_pos e2, if_neg (fun r => r.2.2 e2)]
    exact grw_same
  · rw [if_neg e2, if_pos ⟨by omega, by omega, e2⟩]
    exact grw_same
theorem isRevoked_c (h : CA b0 σ C) (hc : ci C) {c : Nat} (hx : c < 2147483648) : m_X5_isRevoked b0 fu (b0 + 10) (nI c) σ = some (nI (fgC C 16 c), σ) := by
  have L := h.lay
  have := hc.1.2.1
  have b := cb_16 h c
  unfold m_X5_isRevoked J_X5_isRevoked_25 J_X5_isRevoked_26 fgC
  show grw σ (if nI c ≤ nI 0 then ckZ (nI 0) _ else _) = _
  rw [if_l hx (by omega), ckC_10 L, cf_10_7 h, if_l (by omega) hx, ckZ_0]
  by_cases e0 : c ≤ 0
  · rw [if_pos e0, if_neg (by omega)]
    exact grw_same
  rw [if_neg e0]
  by_cases e1 : C 10 7 ≤ c
  · rw [if_pos e1, if_neg (by omega)]
    exact grw_same
  rw [if_neg e1, osm_p (rfC_10_5 L), ckC_16 L, ckI_n (by omega) (by omega), nI_cl hx, cd_16 h]
  show grw σ (if nI (C 16 c) = nI 0 then _ else ckZ (nI 1) _) = _
  rw [if_e (by omega) (by omega), ckZ_1]
  by_cases e2 : C 16 c = 0
  · rw [if_pos e2, if_neg (fun r => r.2.2 e2)]
    exact grw_same
  · rw [if_neg e2, if_pos ⟨by omega, by omega, e2⟩]
    exact grw_same
theorem isDirty_c (h : CA b0 σ C) (hc : ci C) {c : Nat} (hx : c < 2147483648) : m_X5_isDirty b0 fu (b0 + 10) (nI c) σ = some (nI (fgC C 17 c), σ) := by
  have L := h.lay
  have := hc.1.2.1
  have b := cb_17 h c
  unfold m_X5_isDirty J_X5_isDirty_25 J_X5_isDirty_26 fgC
  show grw σ (if nI c ≤ nI 0 then ckZ (nI 0) _ else _) = _
  rw [if_l hx (by omega), ckC_10 L, cf_10_7 h, if_l (by omega) hx, ckZ_0]
  by_cases e0 : c ≤ 0
  · rw [if_pos e0, if_neg (by omega)]
    exact grw_same
  rw [if_neg e0]
  by_cases e1 : C 10 7 ≤ c
  · rw [if_pos e1, if_neg (by omega)]
    exact grw_same
  rw [if_neg e1, osm_p (rfC_10_6 L), ckC_17 L, ckI_n (by omega) (by omega), nI_cl hx, cd_17 h]
  show grw σ (if nI (C 17 c) = nI 0 then _ else ckZ (nI 1) _) = _
  rw [if_e (by omega) (by omega), ckZ_1]
  by_cases e2 : C 17 c = 0
  · rw [if_pos e2, if_neg (fun r => r.2.2 e2)]
    exact grw_same
  · rw [if_neg e2, if_pos ⟨by omega, by omega, e2⟩]
    exact grw_same
theorem ix32 (c i : Nat) : nI c * (32 : Int32) + nI i = nI (c * 32 + i) := by
  rw [show nI c * (32 : Int32) = nI (c * 32) from pk_mul c 32, nI_add]
theorem word_c (h : CA b0 σ C) (hc : ci C) {c i : Nat} (hx : c < 2147483648) (hi : i < 32) : m_X5_word b0 fu (b0 + 10) (nI c) (nI i) σ = some (lN (woC C c i), σ) := by
  have L := h.lay
  have := hc.1.2.1
  unfold m_X5_word J_X5_word_22 J_X5_word_37 woC
  rw [if_neg (nI_pos hx), ckC_10 L, cf_10_7 h, if_l (by omega) hx, if_neg (nI_pos (by omega)), show (32 : Int32) = nI 32 from rfl, if_t (by omega) (by omega), if_pos hi]
  by_cases e1 : C 10 7 ≤ c
  · rw [if_pos e1, if_neg (by omega)]
    exact grw_same
  · rw [if_neg e1, if_pos (by omega), osm_p (rfC_10_0 L), ckC_11 L]
    have := ix32 c i
    rw [show (32 : Int32) = nI 32 from rfl] at this
    rw [this, ckI_n (by omega) (by omega), nI_cl (by omega), cd_11 h]
    exact grw_same
theorem octet_c (h : CA b0 σ C) (hc : ci C) {c i : Nat} (hx : c < 2147483648) (hi : i < 256) : m_X5_octet b0 fu (b0 + 10) (nI c) (nI i) σ = some (nI (ocC C c i), σ) := by
  have L := h.lay
  have := hc.1.2.1
  have bw := cb_11 h (c * 32 + i / 8)
  unfold m_X5_octet J_X5_octet_23 ocC
  rw [if_neg (nI_pos hx), ckC_10 L, cf_10_7 h, if_l (by omega) hx, if_neg (nI_pos (by omega)), show (256 : Int32) = nI 256 from rfl, if_t (by omega) (by omega), if_pos hi, i_shr3 (by omega), i_and7 (by omega), i_shl3 (by omega), ix32]
  by_cases e1 : C 10 7 ≤ c
  · rw [if_pos e1, if_neg (by omega)]
    exact grw_same
  · have q1 : C 11 (c * 32 + i / 8) / 2 ^ (8 * (i % 8)) < 2 ^ 64 := Nat.lt_of_le_of_lt (Nat.div_le_self _ _) bw
    rw [if_neg e1, if_pos (by omega), osm_p (rfC_10_0 L), ckC_11 L, ckI_n (by omega) (by omega), nI_cl (by omega), cd_11 h, wb_shr bw (by omega), lN_i]
    have e2 : nI (C 11 (c * 32 + i / 8) / 2 ^ (8 * (i % 8))) &&& (255 : Int32) = nI (by8 (C 11 (c * 32 + i / 8)) (i % 8)) := by
      obtain ⟨m, hm, em⟩ := wb_of32 (nI (C 11 (c * 32 + i / 8) / 2 ^ (8 * (i % 8))))
      rw [em, i_255 hm]
      unfold by8
      congr 1
      have hh := congrArg (fun x : Int32 => x.toBitVec.toNat) em
      have h1 : (nI (C 11 (c * 32 + i / 8) / 2 ^ (8 * (i % 8)))).toBitVec.toNat = C 11 (c * 32 + i / 8) / 2 ^ (8 * (i % 8)) % 2 ^ 32 := rfl
      have h2 : (nI m).toBitVec.toNat = m := Nat.mod_eq_of_lt hm
      simp only [h1, h2] at hh
      omega
    rw [e2]
    exact grw_same
theorem FC_2 {ρ : tM} (h1 : FC b0 σ τ) (h2 : FC b0 τ ρ) : FC b0 σ ρ := (FC_good b0).2.1 _ _ _ h1 h2
theorem touch_c (h : CM b0 σ C D) (hc : ci C) {c : Nat} (hx : c < 2147483648) : wp (FC b0) σ (m_X5_touch b0 fu (b0 + 10) (nI c) σ) (fun _ τ => CM b0 τ (touC C c) D) := by
  have L := h.lay
  have := hc.1.2.1
  have b := cb_15 h.ca c
  have b11 := (ci_b hc).1
  refine wp_grw (FC_good b0) ?_
  unfold J_X5_touch_38 touC
  show wp (FC b0) σ (if nI c ≤ nI 0 then _ else _) _
  rw [if_l hx (by omega), ckC_10 L, cf_10_7 h.ca, if_l (by omega) hx]
  by_cases e0 : c ≤ 0
  · rw [if_pos e0, if_neg (by omega)]
    exact wp_ret ((FC_good b0).1 _) h
  rw [if_neg e0]
  by_cases e1 : C 10 7 ≤ c
  · rw [if_pos e1, if_neg (by omega)]
    exact wp_ret ((FC_good b0).1 _) h
  rw [if_neg e1, osm_p (rfC_10_4 L), ckC_15 L, ckI_n (by omega) (by omega), nI_cl hx, cd_15 h.ca, osm_p (rfC_10_4 L), ckC_15 L, ckI_n (by omega) (by omega)]
  show wp (FC b0) σ (if nI (C 15 c) = nI 0 then _ else _) _
  rw [if_e (by omega) (by omega)]
  by_cases e2 : C 15 c = 0
  · rw [if_pos e2, if_pos ⟨by omega, by omega, e2⟩]
    have h1 : CM b0 (sI σ (b0 + 15) c (vp_nar .byte 1)) (up2 C 15 c 1) D := CM_fix (o := 15) h rfl vy1 (by decide)
    rw [cf_10_11 h1.ca, up2_o (by decide), show nI (C 10 11) + (1 : Int32) = nI (C 10 11 + 1) from nI_add _ 1]
    exact wp_ret (FC_2 (FC_sI h.rf (by omega)) (FC_sI h1.rf (by omega))) (CM_fix (o := 10) (j := 11) (x := C 10 11 + 1) h1 rfl rfl (by show _ < 2147483648; omega))
  · rw [if_neg e2, if_neg (fun r => e2 r.2.2)]
    exact wp_ret ((FC_good b0).1 _) h
theorem soil_c (h : CM b0 σ C D) (hc : ci C) {c : Nat} (hx : c < 2147483648) : wp (FC b0) σ (m_X5_soil b0 fu (b0 + 10) (nI c) σ) (fun _ τ => CM b0 τ (soiC C c) D) := by
  have L := h.lay
  have := hc.1.2.1
  have b := cb_17 h.ca c
  have b11 := (ci_b hc).2.2
  refine wp_grw (FC_good b0) ?_
  unfold J_X5_soil_38 soiC
  show wp (FC b0) σ (if nI c ≤ nI 0 then _ else _) _
  rw [if_l hx (by omega), ckC_10 L, cf_10_7 h.ca, if_l (by omega) hx]
  by_cases e0 : c ≤ 0
  · rw [if_pos e0, if_neg (by omega)]
    exact wp_ret ((FC_good b0).1 _) h
  rw [if_neg e0]
  by_cases e1 : C 10 7 ≤ c
  · rw [if_pos e1, if_neg (by omega)]
    exact wp_ret ((FC_good b0).1 _) h
  rw [if_neg e1, osm_p (rfC_10_6 L), ckC_17 L, ckI_n (by omega) (by omega), nI_cl hx, cd_17 h.ca, osm_p (rfC_10_6 L), ckC_17 L, ckI_n (by omega) (by omega)]
  show wp (FC b0) σ (if nI (C 17 c) = nI 0 then _ else _) _
  rw [if_e (by omega) (by omega)]
  by_cases e2 : C 17 c = 0
  · rw [if_pos e2, if_pos ⟨by omega, by omega, e2⟩]
    have h1 : CM b0 (sI σ (b0 + 17) c (vp_nar .byte 1)) (up2 C 17 c 1) D := CM_fix (o := 17) h rfl vy1 (by decide)
    rw [cf_10_13 h1.ca, up2_o (by decide), show nI (C 10 13) + (1 : Int32) = nI (C 10 13 + 1) from nI_add _ 1]
    exact wp_ret (FC_2 (FC_sI h.rf (by omega)) (FC_sI h1.rf (by omega))) (CM_fix (o := 10) (j := 13) (x := C 10 13 + 1) h1 rfl rfl (by show _ < 2147483648; omega))
  · rw [if_neg e2, if_neg (fun r => e2 r.2.2)]
    exact wp_ret ((FC_good b0).1 _) h
theorem cn_pos {p : Nat → Bool} {x : Nat} (hp : p x = true) : ∀ m k, k ≤ x → x < k + m → 0 < cn p k m
  | 0, _, h1, h2 => by omega
  | m + 1, k, h1, h2 => by
    unfold cn
    by_cases e : k = x
    · subst e
      rw [if_pos hp]
      omega
    · have := cn_pos hp m (k + 1) (by omega) (by omega)
      omega
theorem clean_c (h : CM b0 σ C D) (hc : ci C) {c : Nat} (hx : c < 2147483648) : wp (FC b0) σ (m_X5_clean b0 fu (b0 + 10) (nI c) σ) (fun _ τ => CM b0 τ (cleC C c) D) := by
  have L := h.lay
  have := hc.1.2.1
  have b := cb_17 h.ca c
  have b11 := (ci_b hc).2.2
  refine wp_grw (FC_good b0) ?_
  unfold J_X5_clean_38 cleC
  show wp (FC b0) σ (if nI c ≤ nI 0 then _ else _) _
  rw [if_l hx (by omega), ckC_10 L, cf_10_7 h.ca, if_l (by omega) hx]
  by_cases e0 : c ≤ 0
  · rw [if_pos e0, if_neg (by omega)]
    exact wp_ret ((FC_good b0).1 _) h
  rw [if_neg e0]
  by_cases e1 : C 10 7 ≤ c
  · rw [if_pos e1, if_neg (by omega)]
    exact wp_ret ((FC_good b0).1 _) h
  rw [if_neg e1, osm_p (rfC_10_6 L), ckC_17 L, ckI_n (by omega) (by omega), nI_cl hx, cd_17 h.ca, osm_p (rfC_10_6 L), ckC_17 L, ckI_n (by omega) (by omega)]
  show wp (FC b0) σ (if nI (C 17 c) = nI 0 then _ else _) _
  rw [if_e (by omega) (by omega)]
  by_cases e2 : C 17 c = 0
  · rw [if_pos e2, if_neg (fun r => r.2.2 e2)]
    exact wp_ret ((FC_good b0).1 _) h
  · rw [if_neg e2, if_pos ⟨by omega, by omega, e2⟩]
    have p1 : 0 < C 10 13 := by
      rw [hc.2.1.2.2]
      exact cn_pos (x := c) (by simp [e2]) 2034 0 (by omega) (by omega)
    have h1 : CM b0 (sI σ (b0 + 17) c (vp_nar .byte 0)) (up2 C 17 c 0) D := CM_fix (o := 17) h rfl vy0 (by decide)
    rw [cf_10_13 h1.ca, up2_o (by decide), show nI (C 10 13) - (1 : Int32) = nI (C 10 13 - 1) from nI_sb (b := 1) (by omega)]
    exact wp_ret (FC_2 (FC_sI h.rf (by omega)) (FC_sI h1.rf (by omega))) (CM_fix (o := 10) (j := 13) (x := C 10 13 - 1) h1 rfl rfl (by show _ < 2147483648; omega))
theorem setOctet_c (h : CM b0 σ C D) (hc : ci C) {c i : Nat} {v : Int32} {V : Nat} (hx : c < 2147483648) (hi : i < 256) (hv : v &&& 255 = nI V) (hV : V < 256) : wp (FC b0) σ (m_X5_setOctet b0 fu (b0 + 10) (nI c) (nI i) v σ) (fun _ τ => CM b0 τ (sooC C c i V) D) := by
  have L := h.lay
  have := hc.1.2.1
  have bw := cb_11 h.ca (c * 32 + i / 8)
  refine wp_grw (FC_good b0) ?_
  unfold J_X5_setOctet_23 sooC
  show wp (FC b0) σ (if nI c ≤ nI 0 then _ else _) _
  rw [if_l hx (by omega), ckC_10 L, cf_10_7 h.ca, if_l (by omega) hx, if_neg (nI_pos (by omega)), show (256 : Int32) = nI 256 from rfl, if_t (by omega) (by omega), if_pos hi, ltb_def, ltb_def, i_shr3 (by omega), i_and7 (by omega), i_shl3 (by omega), ix32]
  by_cases e0 : c ≤ 0
  · rw [if_pos e0, if_neg (by omega)]
    exact wp_ret ((FC_good b0).1 _) h
  rw [if_neg e0]
  by_cases e1 : C 10 7 ≤ c
  · rw [if_pos e1, if_neg (by omega)]
    exact wp_ret ((FC_good b0).1 _) h
  have e3 := wb_fld (w := C 11 (c * 32 + i / 8)) (s := 8 * (i % 8)) (d := 8) (v := V) bw (by omega) (by omega) hV
  have e4 : lN (2 ^ 8 - 1) = (255 : Int64) := rfl
  rw [e4] at e3
  rw [if_neg e1, if_pos ⟨by omega, by omega⟩, osm_p (rfC_10_0 L), osm_p (rfC_10_0 L), ckC_11 L, ckI_n (by omega) (by omega), ckC_11 L, ckI_n (by omega) (by omega), nI_cl (by omega), cd_11 h.ca, hv, show (nI V).toInt64 = lN V from nI_l (by omega), e3, Nat.mod_eq_of_lt hV]
  exact wp_ret (FC_sL h.rf (by omega)) (CM_fixL h (setF_lt (d := 8) hV (by omega) bw))
theorem ci_11 {j x : Nat} (h : ci C) : ci (up2 C 11 j x) := by
  unfold ci
  rw [up2_rown (show (10 : Nat) ≠ 11 by decide), up2_rown (show (15 : Nat) ≠ 11 by decide), up2_rown (show (16 : Nat) ≠ 11 by decide), up2_rown (show (17 : Nat) ≠ 11 by decide)]
  exact h
theorem setWord_c (h : CM b0 σ C D) (hc : ci C) {c i V : Nat} (hx : c < 2147483648) (hi : i < 32) (hV : V < 18446744073709551616) : wp (FC b0) σ (m_X5_setWord b0 fu (b0 + 10) (nI c) (nI i) (lN V) σ) (fun _ τ => CM b0 τ (swoC C c i V) D) := by
  have L := h.lay
  have := hc.1.2.1
  refine wp_grw (FC_good b0) ?_
  unfold J_X5_setWord_39 swoC
  show wp (FC b0) σ (if nI c ≤ nI 0 then _ else _) _
  rw [if_l hx (by omega), ckC_10 L, cf_10_7 h.ca, if_l (by omega) hx, if_neg (nI_pos (by omega)), ix32, show (32 : Int32) = nI 32 from rfl, if_l (by omega) (by omega), if_neg (show ¬ 32 ≤ i by omega)]
  by_cases e0 : c ≤ 0
  · rw [if_pos e0, if_neg (by omega)]
    exact wp_ret ((FC_good b0).1 _) h
  rw [if_neg e0]
  by_cases e1 : C 10 7 ≤ c
  · rw [if_pos e1, if_neg (by omega)]
    exact wp_ret ((FC_good b0).1 _) h
  rw [if_neg e1, if_pos ⟨by omega, by omega⟩, osm_p (rfC_10_0 L), ckC_11 L, ckI_n (by omega) (by omega), nI_cl (by omega)]
  have h1 := CM_fixL (j := c * 32 + i) h hV
  refine wp_from (FC_good b0) (FC_sL h.rf (by omega)) (wp_bind (FC_good b0) (touch_c (fu := fu) h1 (ci_11 hc) hx) ?_)
  intro _ ρ q
  exact wp_ret ((FC_good b0).1 _) q
end SP
