/-! ===== PURE: the class's Tree: addEntry, removeEntry, setText, storeTape, storeSame, checksum ===== -/
section AE
variable {b0 fu : Nat} {σ τ : tM} {C : tS} {D : tD}
theorem rk_soo {c i v : Nat} (h : rk3 C) : rk3 (sooC C c i v) := rk_cong h (soo_o (by decide)) (fun q _ _ => by rw [soo_o (by decide)]) (ci_soo h.1)
theorem addEntry_c {p o d st l n : Nat} (hp : isPT p o) (h : CM b0 σ C D) (hc : ci C) (hs : sk C) (hd : d < 64) (hz : szC C d ≤ 272384) (hk : pfE C d / 8 < 1064) (hn : n < 64) (hst : C p 2 = st) (hl : C p 3 = l) (hl2 : l ≤ 28) (hs2 : st + l ≤ 120) (h9 : ¬ pfE C d < alE C d → ptC C d (pfE C d / 8) = 0 → obN C d (pfE C d / 8) ≤ C 10 9) (hz2 : ¬ pfE C d < alE C d → szC (obT C d (pfE C d / 8)) d + 256 ≤ 272384) (hb : C 10 15 + 3 < 1000000) (hpo : obT C d (pfE C d / 8) p = C p) (hu : 10000 ≤ fu) : wp (FC b0) σ (m_X8_addEntry b0 fu (b0 + 18) (nI d) (b0 + p) (nI n) σ) (fun _ τ => CM b0 τ (adEn C d o st l n) D) := by
  have L := h.lay
  have ea : alE C d ≤ 8512 := by unfold alE; split <;> omega
  have pe : pfE C d ≤ alE C d := by
    have := (sr_le (fun k => lnE C d k == 0) (alE C d) 0).2
    rw [Nat.zero_add] at this
    exact this
  obtain ⟨-, -, -, -, -, -, -, -, -, t10, -, t12, -, t14, -⟩ := pt_k hp h.ca
  refine wp_grw (FC_good b0) ?_
  unfold J_X8_addEntry_41 adEn adE1
  have e0 : (if kiC C d = 2 then szC C d / 32 else 0) = alE C d := rfl
  rw [ckC_18 L, placeForEntry_c h.ca hc hd hz hu, cll_some, ckC_18 L, entries_c h.ca hd (by omega), e0, cll_some, if_t (by omega) (by omega)]
  by_cases c : pfE C d < alE C d
  · rw [if_pos c, if_pos c, ckC_18 L]
    refine wp_bind (FC_good b0) (setEntry_c (fu := fu) hp h hc hd hk hn hst hl hl2 hs2 (by omega)) ?_
    intro _ ρ q
    exact wp_ret ((FC_good b0).1 _) q
  · rw [if_neg c, if_neg c, ckC_18 L, show nI (pfE C d) / (8 : Int32) = nI (pfE C d / 8) from nI_dv (d := 8) (by omega) (by omega) (by omega)]
    refine wp_bind (FC_good b0) (obt_c (fu := fu) h hc hs (h9 c) hd hk hb (by omega)) ?_
    intro _ ρ q
    have hz2 := hz2 c
    have co : ci (obT C d (pfE C d / 8)) := by
      unfold obT
      split
      · unfold ob3T
        refine ci_19 (ci_sp (ci_ob ?_))
        have c1 : ci (ob1T C d (pfE C d / 8)) := by
          unfold ob1T
          split
          · exact ci_sn (ci_ob hc)
          · exact hc
        unfold ob2T
        split
        · split
          · exact ci_sn (ci_ob c1)
          · exact ci_swo (ci_ob c1)
        · exact c1
      · exact hc
    generalize obT C d (pfE C d / 8) = X at *
    rw [ckC_18 q.lay, size_c q.ca hd, cll_some, ckC_18 q.lay, show nI (szC X d) + (256 : Int32) = nI (szC X d + 256) from nI_add _ 256]
    refine wp_bind (FC_good b0) (setSize_c (fu := fu) q co hd (show szC X d + 256 < 2147483648 by omega)) ?_
    intro _ ρ2 q2
    have sp : shC X d (kiC X d) (naC X d) (prC X d) (szC X d + 256) p = X p := by
      unfold shC snC
      rw [tou_o t14 t12, up2_rown t10]
    rw [ckC_18 q2.lay]
    refine wp_bind (FC_good b0) (setEntry_c (fu := fu) hp q2 (ci_sn co) hd hk hn (by rw [sp, hpo]; exact hst) (by rw [sp, hpo]; exact hl) hl2 hs2 (by omega)) ?_
    intro _ ρ3 q3
    exact wp_ret ((FC_good b0).1 _) q3
theorem rk_rm4 {c k : Nat} : ∀ m i (C : tS), rk3 C → rk3 (rm4 c k i m C)
  | 0, _, _, h => h
  | m + 1, i, C, h => rk_rm4 m (i + 1) _ (rk_swo h)
theorem rm59 {d : Nat} (hd : d < 64) (hu : 3000 ≤ fu) : ∀ m f σ C, CM b0 σ C D → rk3 C → m ≤ 1064 → m < f → wp (FC b0) σ (L_X8_removeEntry_59 b0 fu f (b0 + 18) (nI d) (iz ((m : Int) - 1)) σ) (fun _ τ => CM b0 τ (rmL d m C) D) := by
  intro m
  induction m with
  | zero =>
    intro f σ C h hr hm hf
    obtain ⟨f, rfl⟩ : ∃ q, f = q + 1 := ⟨f - 1, by omega⟩
    unfold L_X8_removeEntry_59
    rw [ltb_def, iz_m1, if_pos (show nI 0 - 1 < 0 by decide)]
    exact wp_ret ((FC_good b0).1 _) h
  | succ m ih =>
    intro f σ C h hr hm hf
    obtain ⟨f, rfl⟩ : ∃ q, f = q + 1 := ⟨f - 1, by omega⟩
    have L := h.lay
    have m1 : ptC C d m % 2048 < 2048 := Nat.mod_lt _ (by omega)
    unfold L_X8_removeEntry_59 rmL
    rw [ltb_def, iz_m1, show nI (m + 1) - 1 = nI m from nI_sb (a := m + 1) (b := 1) (by omega), if_neg (nI_pos (by omega)), ckC_18 L, osm_p (rfC_18_0 L), pointer_c h.ca hd (by omega), cll_some, cellOf_c, cll_some, ckC_10 L]
    show wp (FC b0) σ (cll (m_X5_isZeroFrom b0 fu (b0 + 10) (nI (ptC C d m % 2048)) (nI 0) σ) _) _
    rw [isZeroFrom_c h.ca hr.1 (by omega) (by omega) (by omega), cll_some]
    cases z : zfC C (ptC C d m % 2048) 0 with
    | false =>
      rw [if_pos (show nI (b2n false) = 0 by decide), if_neg (by decide)]
      exact wp_ret ((FC_good b0).1 _) h
    | true =>
      rw [if_neg (show ¬ nI (b2n true) = 0 by decide), if_pos rfl, ckC_18 L]
      refine wp_bind (FC_good b0) (drop_c (fu := fu) h hr hd (by omega) hu) ?_
      intro _ ρ q
      rw [ckC_18 q.lay, show nI m * (256 : Int32) = nI (m * 256) from pk_mul m 256]
      refine wp_bind (FC_good b0) (setSize_c (fu := fu) q (rk_dr hr).1 hd (show m * 256 < 2147483648 by omega)) ?_
      intro _ ρ2 q2
      rw [ltb_def, show nI m + Int32.ofInt (-1) = iz ((m : Int) - 1) from by
        rw [iz_m1]
        cases m with
        | zero => decide
        | succ y => rw [show nI (y + 1) + Int32.ofInt (-1) = nI y from pk_m1 y, show nI (y + 1) - 1 = nI y from nI_sb (a := y + 1) (b := 1) (by omega)]]
      exact ih f ρ2 _ q2 (rk_sn (rk_dr hr)) (by omega) (by omega)
theorem rm16 {d k c : Nat} (hd : d < 64) (hk : k < 2147483648) (hcc : c < 2048) (hu : 3000 ≤ fu) : ∀ m i f σ C, CM b0 σ C D → rk3 C → i + m = 4 → m < f → szC (rm4 c k i m C) d ≤ 272384 → wp (FC b0) σ (L_X8_removeEntry_16 b0 fu f (b0 + 18) (nI d) (nI k) (nI c) (nI i) σ) (fun _ τ => CM b0 τ (rmL d (szC (rm4 c k i m C) d / 256) (rm4 c k i m C)) D) := by
  intro m
  induction m with
  | zero =>
    intro i f σ C h hr hi hf hz
    obtain ⟨f, rfl⟩ : ∃ q, f = q + 1 := ⟨f - 1, by omega⟩
    have hz : szC C d ≤ 272384 := hz
    unfold L_X8_removeEntry_16
    rw [ltb_def, show (4 : Int32) = nI 4 from rfl, if_l (by omega) (by omega), if_pos (by omega), ckC_18 h.lay, size_c h.ca hd, cll_some, ltb_def, show nI (szC C d) / (256 : Int32) = nI (szC C d / 256) from nI_dv (d := 256) (by omega) (by omega) (by omega), ← iz_m1]
    exact rm59 hd hu (szC C d / 256) fu σ C h hr (by omega) (by omega)
  | succ m ih =>
    intro i f σ C h hr hi hf hz
    obtain ⟨f, rfl⟩ : ∃ q, f = q + 1 := ⟨f - 1, by omega⟩
    have L := h.lay
    have k8 : k % 8 < 8 := Nat.mod_lt _ (by omega)
    unfold L_X8_removeEntry_16
    rw [ltb_def, show nI k - nI k / (8 : Int32) * (8 : Int32) = nI (k % 8) from pk_rem (d := 8) hk (by omega) (by omega), show nI (k % 8) * (4 : Int32) = nI (k % 8 * 4) from pk_mul _ 4, nI_add, show (4 : Int32) = nI 4 from rfl, if_l (by omega) (by omega), if_neg (by omega), ckC_18 L, osm_p (rfC_18_0 L), ckC_10 L]
    refine wp_bind (FC_good b0) (setWord_c (fu := fu) (V := 0) h hr.1 (show c < 2147483648 by omega) (show k % 8 * 4 + i < 32 by omega) (by decide)) ?_
    intro _ ρ q
    rw [ltb_def, ofi]
    exact ih (i + 1) f ρ _ q (rk_swo hr) (by omega) (by omega) hz
theorem removeEntry_c {d k : Nat} (h : CM b0 σ C D) (hr : rk3 C) (hd : d < 64) (hk : k / 8 < 1064) (hz : szC (rm4 (clE C d k) k 0 4 C) d ≤ 272384) (hu : 3000 ≤ fu) : wp (FC b0) σ (m_X8_removeEntry b0 fu (b0 + 18) (nI d) (nI k) σ) (fun _ τ => CM b0 τ (rmEn C d k) D) := by
  have L := h.lay
  have m1 : ptC C d (k / 8) % 2048 < 2048 := Nat.mod_lt _ (by omega)
  refine wp_grw (FC_good b0) ?_
  rw [ckC_18 L, show nI k / (8 : Int32) = nI (k / 8) from nI_dv (d := 8) (by omega) (by omega) (by omega), pointer_c h.ca hd hk, cll_some, cellOf_c, cll_some]
  exact rm16 hd (by omega) m1 hu 4 0 fu σ C h hr (by omega) (by omega) hz
/-- a link's text -/
def sxN (c fr o : Nat) : Nat → Nat → tS → tS
  | _, 0, C => C
  | i, m + 1, C => sxN c fr o (i + 1) m (sooC C c (fr + i) (C o i))
def sxT (C : tS) (n o l : Nat) : tS := (fun X => shC X n (kiC X n) (naC X n) (prC X n) l) (sxN (2 + n / 2) ((n % 2 * 16 + 1) * 8) o 0 l C)
theorem ci_sx {c fr o : Nat} : ∀ m i (C : tS), ci C → ci (sxN c fr o i m C)
  | 0, _, _, h => h
  | m + 1, i, C, h => ci_sx m (i + 1) _ (ci_soo h)
theorem sx26 {p o n l : Nat} (hp : isPT p o) (hn : n < 64) (hl : l ≤ 80) : ∀ m i f σ C, CM b0 σ C D → ci C → i + m = l → m < f → wp (FC b0) σ (L_X8_setText_26 b0 fu f (b0 + 18) (nI n) (b0 + p) (nI l) (nI ((n % 2 * 16 + 1) * 8)) (nI i) σ) (fun _ τ => CM b0 τ ((fun X => shC X n (kiC X n) (naC X n) (prC X n) l) (sxN (2 + n / 2) ((n % 2 * 16 + 1) * 8) o i m C)) D) := by
  intro m
  induction m with
  | zero =>
    intro i f σ C h hc hi hf
    obtain ⟨f, rfl⟩ : ∃ q, f = q + 1 := ⟨f - 1, by omega⟩
    unfold L_X8_setText_26
    rw [ltb_def, if_l (by omega) (by omega), if_pos (by omega), ckC_18 h.lay]
    refine wp_bind (FC_good b0) (setSize_c (fu := fu) h hc hn (show l < 2147483648 by omega)) ?_
    intro _ ρ q
    exact wp_ret ((FC_good b0).1 _) q
  | succ m ih =>
    intro i f σ C h hc hi hf
    obtain ⟨f, rfl⟩ : ∃ q, f = q + 1 := ⟨f - 1, by omega⟩
    have L := h.lay
    have h74 := L.1
    obtain ⟨t1, t2, t3, t4, t5, t6, t7, t8, t9, t10, t11, t12, t13, t14, t15⟩ := pt_k hp h.ca
    have bb := (t7 i).2
    unfold L_X8_setText_26
    rw [ltb_def, if_l (by omega) (by omega), if_neg (by omega), ckC_18 L, osm_p (rfC_18_0 L), ckO_p t1 ⟨by omega, by omega⟩, osm_p t2, ckR_p t6 ⟨by omega, by omega⟩, ckI_n (by omega) (by omega), nI_cl (by omega), (t7 i).1, ckC_10 L, nI_add, show nI n / (2 : Int32) = nI (n / 2) from nI_dv (d := 2) (by omega) (by omega) (by omega), show (2 : Int32) + nI (n / 2) = nI (2 + n / 2) from nI_add 2 _]
    refine wp_bind (FC_good b0) (setOctet_c (fu := fu) (V := C o i) h hc (by omega) (by omega) (sb_255 bb) bb) ?_
    intro _ ρ q
    rw [ltb_def, ofi]
    exact ih (i + 1) f ρ _ q (ci_soo hc) (by omega) (by omega)
theorem setText_c {p o n l : Nat} (hp : isPT p o) (h : CM b0 σ C D) (hc : ci C) (hn : n < 64) (hl : C p 1 = l) (hl2 : l ≤ 80) (hu : 1000 ≤ fu) : wp (FC b0) σ (m_X8_setText b0 fu (b0 + 18) (nI n) (b0 + p) σ) (fun _ τ => CM b0 τ (sxT C n o l) D) := by
  have h74 := h.lay.1
  obtain ⟨t1, t2, t3, t4, t5, t6, t7, t8, -⟩ := pt_k hp h.ca
  refine wp_grw (FC_good b0) ?_
  have ev : (if (80 : Int32) < nI l then 80 else nI l) = nI l := if_neg (fun r => by have := (nI_ltP (a := 80) (b := l) (by omega) (by omega)).mp r; omega)
  have e1 : nI n &&& (1 : Int32) = nI (n % 2) := pk_andN (by omega) 1 (by decide)
  have e2 : (nI (n % 2) * (16 : Int32) + (1 : Int32)) * (8 : Int32) = nI ((n % 2 * 16 + 1) * 8) := by
    rw [show nI (n % 2) * (16 : Int32) = nI (n % 2 * 16) from pk_mul _ 16, show nI (n % 2 * 16) + (1 : Int32) = nI (n % 2 * 16 + 1) from nI_add _ 1]
    exact pk_mul _ 8
  rw [ckO_p t1 ⟨by omega, by omega⟩, ltb_def, ltb_def, t3, hl, ev, e1, e2]
  exact sx26 hp hn hl2 l 0 fu σ C h hc (by omega) (by omega)
theorem octet6_c (h : CA b0 σ C) {i : Nat} (hi : i < 4000) : m_X6_octet b0 fu (b0 + 26) (nI i) σ = some (sb (C 27 i), σ) := by
  have L := h.lay
  unfold m_X6_octet J_X6_octet_21
  rw [if_neg (nI_pos (by omega)), show (4000 : Int32) = nI 4000 from rfl, if_t (by omega) (by omega), if_pos hi, ckC_26 L, osm_p (rfC_26_0 L), ckC_27 L, ckI_n hi (by omega), nI_cl (by omega), cd_27 h]
  have : ckB (sb (C 27 i)) (some (sb (C 27 i), σ)) = some (sb (C 27 i), σ) := by
    unfold ckB
    rw [if_pos (sb_sb _)]
  rw [this]
  exact grw_same
end AE
