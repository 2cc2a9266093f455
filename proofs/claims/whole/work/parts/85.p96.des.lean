/-! ===== PURE: the class's Tree: describe; the entries' writes ===== -/
def cbC (C : tS) (n : Nat) : Nat := if kiC C n = 3 then 0 else cn (fun i => ptC C n i != 0) 0 ((szC C n - 1) / 256 + 1)
def cpC (C : tS) (n : Nat) : Nat := if kiC C n = 3 then 0 else (if nwC C n 9 = 0 then 0 else 1) + (if nwC C n 10 = 0 then 0 else 1) + cn (fun i => woC C (nwC C n 10 % 2048) i != 0) 0 32
def deS (C : tS) (n w : Nat) : Nat := if w = 0 then kiC C n else if w = 1 then szC C n else if w = 2 then naC C n else if w = 3 then n else if w = 4 then cbC C n else if w = 5 then cpC C n else cnE C n
/-- the bytes of a name into an entry -/
def seN1 (c fr o st : Nat) : Nat → Nat → tS → tS
  | _, 0, C => C
  | i, m + 1, C => seN1 c fr o st (i + 1) m (sooC C c (fr + i) (C o (st + i)))
def seE (C : tS) (d k o st l n : Nat) : tS := touC (sooC (sooC (seN1 (clE C d k) (k % 8 * 32) o st 0 l C) (clE C d k) (k % 8 * 32 + 28) l) (clE C d k) (k % 8 * 32 + 29) n) (clE C d k)
def adE1 (C : tS) (d : Nat) : tS := if pfE C d < alE C d then C else shC (obT C d (pfE C d / 8)) d (kiC (obT C d (pfE C d / 8)) d) (naC (obT C d (pfE C d / 8)) d) (prC (obT C d (pfE C d / 8)) d) (szC (obT C d (pfE C d / 8)) d + 256)
def adEn (C : tS) (d o st l n : Nat) : tS := seE (adE1 C d) d (pfE C d) o st l n
def rm4 (c k : Nat) : Nat → Nat → tS → tS
  | _, 0, C => C
  | i, m + 1, C => rm4 c k (i + 1) m (swoC C c (k % 8 * 4 + i) 0)
def rmL (d : Nat) : Nat → tS → tS
  | 0, C => C
  | m + 1, C => if zfC C (ptC C d m % 2048) 0 then rmL d m (shC (drT C d m) d (kiC (drT C d m) d) (naC (drT C d m) d) (prC (drT C d m) d) (m * 256)) else C
def rmEn (C : tS) (d k : Nat) : tS := rmL d (szC (rm4 (clE C d k) k 0 4 C) d / 256) (rm4 (clE C d k) k 0 4 C)
section DE
variable {b0 fu : Nat} {σ τ : tM} {C : tS} {D : tD}
theorem cb28 (h : CA b0 σ C) {n la : Nat} (hn : n < 64) (hla : la < 1064) : ∀ m k c f, k + m = la + 1 → m < f → c + m < 100000 → L_X8_countBlocks_28 b0 fu f (b0 + 18) (nI n) (nI c) (nI la) (nI k) σ = some (nI (c + cn (fun i => ptC C n i != 0) k m), σ) := by
  have L := h.lay
  intro m
  induction m with
  | zero =>
    intro k c f hk hf hcc
    obtain ⟨f, rfl⟩ : ∃ q, f = q + 1 := ⟨f - 1, by omega⟩
    unfold L_X8_countBlocks_28
    rw [ltb_def, if_t (by omega) (by omega), if_pos (by omega)]
    rfl
  | succ m ih =>
    intro k c f hk hf hcc
    obtain ⟨f, rfl⟩ : ∃ q, f = q + 1 := ⟨f - 1, by omega⟩
    have pl : ptC C n k < 18446744073709551616 := by unfold ptC nwC; split <;> exact cb_11 h _
    have e1 : nI c + (1 : Int32) = nI (c + 1) := nI_add c 1
    have e0 : nI c + (0 : Int32) = nI c := nI_add c 0
    unfold L_X8_countBlocks_28 J_X8_countBlocks_52
    rw [ltb_def, if_t (by omega) (by omega), if_neg (by omega), ckC_18 L, pointer_c h hn (by omega), cll_some, lgz pl, ltb_def, ltb_def, ltb_def, ltb_def, ofi, e1, e0, ih (k + 1) (c + 1) f (by omega) (by omega) (by omega), ih (k + 1) c f (by omega) (by omega) (by omega)]
    show _ = some (nI (c + ((if (ptC C n k != 0) = true then 1 else 0) + cn (fun i => ptC C n i != 0) (k + 1) m)), σ)
    by_cases z : ptC C n k = 0
    · rw [if_pos z, if_neg (by simp [z]), Nat.zero_add]
    · rw [if_neg z, if_pos (by simp [z]), Nat.add_assoc]
theorem countBlocks_c (h : CA b0 σ C) {n : Nat} (hn : n < 64) (hs : szC C n ≤ 272384) (hu : 10000 ≤ fu) : m_X8_countBlocks b0 fu (b0 + 18) (nI n) σ = some (nI (cbC C n), σ) := by
  have L := h.lay
  have k1 := (kna C n).1
  unfold m_X8_countBlocks cbC
  rw [ckC_18 L, kind_c h hn, cll_some]
  show grw σ (if nI (kiC C n) = nI 3 then _ else _) = _
  rw [if_e (by omega) (by omega)]
  by_cases c : kiC C n = 3
  · rw [if_pos c, if_pos c]
    exact grw_same
  · have e3 : (nI (szC C n) - (1 : Int32)) / (256 : Int32) = nI ((szC C n - 1) / 256) := by
      by_cases z : szC C n = 0
      · rw [z]
        decide
      · rw [show nI (szC C n) - (1 : Int32) = nI (szC C n - 1) from nI_sb (b := 1) (by omega)]
        exact nI_dv (d := 256) (by omega) (by omega) (by omega)
    have := cb28 (fu := fu) h hn (la := (szC C n - 1) / 256) (by omega) ((szC C n - 1) / 256 + 1) 0 0 fu (by omega) (by omega) (by omega)
    rw [if_neg c, if_neg c, ckC_18 L, size_c h hn, cll_some, ltb_def, e3, show (0 : Int32) = nI 0 from rfl, this, Nat.zero_add]
    exact grw_same
theorem cp57 (h : CA b0 σ C) (hc : ci C) {p : Nat} : ∀ m k c f, k + m = 32 → m < f → c + m < 100000 → L_X8_countPointerBlocks_57 b0 fu f (b0 + 18) (lN p) (nI c) (nI k) σ = some (nI (c + cn (fun i => woC C (p % 2048) i != 0) k m), σ) := by
  have L := h.lay
  have m1 : p % 2048 < 2048 := Nat.mod_lt _ (by omega)
  intro m
  induction m with
  | zero =>
    intro k c f hk hf hcc
    obtain ⟨f, rfl⟩ : ∃ q, f = q + 1 := ⟨f - 1, by omega⟩
    unfold L_X8_countPointerBlocks_57
    rw [ltb_def, show (32 : Int32) = nI 32 from rfl, if_l (by omega) (by omega), if_pos (by omega)]
    rfl
  | succ m ih =>
    intro k c f hk hf hcc
    obtain ⟨f, rfl⟩ : ∃ q, f = q + 1 := ⟨f - 1, by omega⟩
    have pl : woC C (p % 2048) k < 18446744073709551616 := by unfold woC; split; exact cb_11 h _; decide
    have e1 : nI c + (1 : Int32) = nI (c + 1) := nI_add c 1
    have e0 : nI c + (0 : Int32) = nI c := nI_add c 0
    unfold L_X8_countPointerBlocks_57 J_X8_countPointerBlocks_89
    rw [ltb_def, show (32 : Int32) = nI 32 from rfl, if_l (by omega) (by omega), if_neg (by omega), ckC_18 L, osm_p (rfC_18_0 L), cellOf_c, cll_some, ckC_10 L, word_c h hc (by omega) (by omega), cll_some, lgz pl, ltb_def, ltb_def, ltb_def, ltb_def, ofi, e1, e0, ih (k + 1) (c + 1) f (by omega) (by omega) (by omega), ih (k + 1) c f (by omega) (by omega) (by omega)]
    show _ = some (nI (c + ((if (woC C (p % 2048) k != 0) = true then 1 else 0) + cn (fun i => woC C (p % 2048) i != 0) (k + 1) m)), σ)
    by_cases z : woC C (p % 2048) k = 0
    · rw [if_pos z, if_neg (by simp [z]), Nat.zero_add]
    · rw [if_neg z, if_pos (by simp [z]), Nat.add_assoc]
theorem countPointerBlocks_c (h : CA b0 σ C) (hc : ci C) {n : Nat} (hn : n < 64) (hu : 10000 ≤ fu) : m_X8_countPointerBlocks b0 fu (b0 + 18) (nI n) σ = some (nI (cpC C n), σ) := by
  have L := h.lay
  have k1 := (kna C n).1
  unfold m_X8_countPointerBlocks cpC J_X8_countPointerBlocks_36 J_X8_countPointerBlocks_51
  rw [ckC_18 L, kind_c h hn, cll_some]
  show grw σ (if nI (kiC C n) = nI 3 then _ else ckO b0 σ (b0 + 18) 8 (cll (m_X8_nodeWord b0 fu (b0 + 18) (nI n) (nI 10) σ) _)) = _
  rw [if_e (by omega) (by omega)]
  by_cases c : kiC C n = 3
  · rw [if_pos c, if_pos c]
    exact grw_same
  · have q : ∀ a, a < 10 → L_X8_countPointerBlocks_57 b0 fu fu (b0 + 18) (lN (nwC C n 10)) (nI a) 0 σ = some (nI (a + cn (fun i => woC C (nwC C n 10 % 2048) i != 0) 0 32), σ) := fun a ha => cp57 (fu := fu) h hc 32 0 a fu (by omega) (by omega) (by omega)
    rw [if_neg c, if_neg c, ckC_18 L, nodeWord_c h hn (by omega), cll_some, ckC_18 L]
    show grw σ (cll (m_X8_nodeWord b0 fu (b0 + 18) (nI n) (nI 9) σ) _) = _
    rw [nodeWord_c h hn (by omega), cll_some, lgz (nw_lt h n 9), lgz (nw_lt h n 10), lgz (nw_lt h n 10), ltb_def, ltb_def, ltb_def, ltb_def]
    by_cases c9 : nwC C n 9 = 0
    · rw [if_pos c9, if_pos c9]
      by_cases c10 : nwC C n 10 = 0
      · rw [if_pos c10, if_pos c10, show (0 : Int32) + 0 = nI 0 from rfl, q 0 (by omega)]
        exact grw_same
      · rw [if_neg c10, if_neg c10, show (0 : Int32) + 1 = nI 1 from rfl, q 1 (by omega)]
        exact grw_same
    · rw [if_neg c9, if_neg c9]
      by_cases c10 : nwC C n 10 = 0
      · rw [if_pos c10, if_pos c10, show (1 : Int32) + 0 = nI 1 from rfl, q 1 (by omega)]
        exact grw_same
      · rw [if_neg c10, if_neg c10, show (1 : Int32) + 1 = nI 2 from rfl, q 2 (by omega)]
        exact grw_same
theorem describe_c (h : CA b0 σ C) (hc : ci C) {n w : Nat} (hn : n < 64) (hw : w ≤ 6) (hs : szC C n ≤ 272384) (hu : 10000 ≤ fu) : m_X8_describe b0 fu (b0 + 18) (nI n) (nI w) σ = some (nI (deS C n w), σ) := by
  have L := h.lay
  unfold m_X8_describe deS
  show grw σ (if nI w = nI 0 then _ else if nI w = nI 1 then _ else if nI w = nI 2 then _ else if nI w = nI 3 then _ else if nI w = nI 4 then _ else if nI w = nI 5 then _ else _) = _
  rw [if_e (a := w) (b := 0) (by omega) (by omega), if_e (a := w) (b := 1) (by omega) (by omega), if_e (a := w) (b := 2) (by omega) (by omega), if_e (a := w) (b := 3) (by omega) (by omega), if_e (a := w) (b := 4) (by omega) (by omega), if_e (a := w) (b := 5) (by omega) (by omega)]
  simp only [ckC_18 L, kind_c h hn, size_c h hn, names_c h hn, countBlocks_c h hn hs hu, countPointerBlocks_c h hc hn hu, countEntries_c h hc hn hs hu, cll_some]
  by_cases w0 : w = 0
  · rw [if_pos w0, if_pos w0]
    exact grw_same
  rw [if_neg w0, if_neg w0]
  by_cases w1 : w = 1
  · rw [if_pos w1, if_pos w1]
    exact grw_same
  rw [if_neg w1, if_neg w1]
  by_cases w2 : w = 2
  · rw [if_pos w2, if_pos w2]
    exact grw_same
  rw [if_neg w2, if_neg w2]
  by_cases w3 : w = 3
  · rw [if_pos w3, if_pos w3]
    exact grw_same
  rw [if_neg w3, if_neg w3]
  by_cases w4 : w = 4
  · rw [if_pos w4, if_pos w4]
    exact grw_same
  rw [if_neg w4, if_neg w4]
  by_cases w5 : w = 5
  · rw [if_pos w5, if_pos w5]
    exact grw_same
  rw [if_neg w5, if_neg w5]
  exact grw_same
/-- a path: its cell and its text's -/
def isPT (p o : Nat) : Prop := (p = 28 ∧ o = 29) ∨ (p = 30 ∧ o = 31)
theorem pt_k {p o : Nat} (hp : isPT p o) (h : CA b0 σ C) : tk σ (b0 + p) = .inl 3 ∧ tA σ (b0 + p) 0 = some (b0 + o) ∧ tI σ (b0 + p) 1 = nI (C p 1) ∧ tI σ (b0 + p) 2 = nI (C p 2) ∧ tI σ (b0 + p) 3 = nI (C p 3) ∧ tk σ (b0 + o) = .inr (1, 120) ∧ (∀ j, tI σ (b0 + o) j = sb (C o j) ∧ C o j < 256) ∧ p < 33 ∧ o < 33 ∧ p ≠ 11 ∧ o ≠ 11 ∧ p ≠ 15 ∧ o ≠ 15 ∧ p ≠ 10 ∧ o ≠ 10 := by
  have L := h.lay
  rcases hp with ⟨rfl, rfl⟩ | ⟨rfl, rfl⟩
  · exact ⟨rkC28 L, rfC_28_0 L, cf_28_1 h, cf_28_2 h, cf_28_3 h, rkC29 L, fun j => ⟨cd_29 h j, cb_29 h j⟩, by omega, by omega, by omega, by omega, by omega, by omega, by omega, by omega⟩
  · exact ⟨rkC30 L, rfC_30_0 L, cf_30_1 h, cf_30_2 h, cf_30_3 h, rkC31 L, fun j => ⟨cd_31 h j, cb_31 h j⟩, by omega, by omega, by omega, by omega, by omega, by omega, by omega, by omega⟩
theorem seN1_o {c fr o st p : Nat} (h : p ≠ 11) : ∀ m i (C : tS), seN1 c fr o st i m C p = C p
  | 0, _, _ => rfl
  | m + 1, i, C => by
    unfold seN1
    rw [seN1_o h m, soo_o h]
theorem ci_se1 {c fr o st : Nat} : ∀ m i (C : tS), ci C → ci (seN1 c fr o st i m C)
  | 0, _, _, h => h
  | m + 1, i, C, h => ci_se1 m (i + 1) _ (ci_soo h)
theorem se37 {p o c fr st l n : Nat} (hp : isPT p o) (hcc : c < 2048) (hfr : fr ≤ 224) (hl : l ≤ 28) (hn : n < 64) (hst : st + l ≤ 120) : ∀ m i f σ C, CM b0 σ C D → ci C → C p 2 = st → i + m = l → m < f → wp (FC b0) σ (L_X8_setEntry_37 b0 fu f (b0 + 18) (b0 + p) (nI n) (nI c) (nI fr) (nI l) (nI i) σ) (fun _ τ => CM b0 τ (touC (sooC (sooC (seN1 c fr o st i m C) c (fr + 28) l) c (fr + 29) n) c) D) := by
  intro m
  induction m with
  | zero =>
    intro i f σ C h hc hs hi hf
    obtain ⟨f, rfl⟩ : ∃ q, f = q + 1 := ⟨f - 1, by omega⟩
    have L := h.lay
    unfold L_X8_setEntry_37 J_X8_setEntry_88
    rw [ltb_def, if_l (by omega) (by omega), if_pos (by omega), ckC_18 L, osm_p (rfC_18_0 L), ckC_10 L, show nI fr + (28 : Int32) = nI (fr + 28) from nI_add fr 28, show nI fr + (29 : Int32) = nI (fr + 29) from nI_add fr 29]
    refine wp_bind (FC_good b0) (setOctet_c (fu := fu) (V := l) h hc (by omega) (by omega) (by rw [i_255 (by omega), Nat.mod_eq_of_lt (by omega)]) (by omega)) ?_
    intro _ ρ q
    rw [ckC_18 q.lay, osm_p (rfC_18_0 q.lay), ckC_10 q.lay]
    refine wp_bind (FC_good b0) (setOctet_c (fu := fu) (V := n) q (ci_soo hc) (by omega) (by omega) (by rw [i_255 (by omega), Nat.mod_eq_of_lt (by omega)]) (by omega)) ?_
    intro _ ρ q
    rw [ckC_18 q.lay, osm_p (rfC_18_0 q.lay), ckC_10 q.lay]
    refine wp_bind (FC_good b0) (touch_c (fu := fu) (c := c) q (ci_soo (ci_soo hc)) (by omega)) ?_
    intro _ ρ q
    exact wp_ret ((FC_good b0).1 _) q
  | succ m ih =>
    intro i f σ C h hc hs hi hf
    obtain ⟨f, rfl⟩ : ∃ q, f = q + 1 := ⟨f - 1, by omega⟩
    have L := h.lay
    have h74 := L.1
    obtain ⟨t1, t2, t3, t4, t5, t6, t7, t8, t9, t10, t11, t12, t13, t14, t15⟩ := pt_k hp h.ca
    have bb := (t7 (st + i)).2
    unfold L_X8_setEntry_37
    rw [ltb_def, if_l (by omega) (by omega), if_neg (by omega), ckO_p t1 ⟨by omega, by omega⟩, t4, hs, nI_add]
    show wp (FC b0) σ (if nI 120 ≤ nI (st + i) then _ else _) _
    rw [if_l (by omega) (by omega), if_neg (by omega), ckC_18 L, osm_p (rfC_18_0 L), osm_p t2, ckR_p t6 ⟨by omega, by omega⟩, ckI_n (by omega) (by omega), nI_cl (by omega), (t7 (st + i)).1, ckC_10 L, nI_add]
    refine wp_bind (FC_good b0) (setOctet_c (fu := fu) (V := C o (st + i)) h hc (by omega) (by omega) (sb_255 bb) bb) ?_
    intro _ ρ q
    rw [ltb_def, ofi]
    have := ih (i + 1) f ρ _ q (ci_soo hc) (by rw [soo_o t10]; exact hs) (by omega) (by omega)
    exact this
theorem setEntry_c {p o d k st l n : Nat} (hp : isPT p o) (h : CM b0 σ C D) (hc : ci C) (hd : d < 64) (hk : k / 8 < 1064) (hn : n < 64) (hst : C p 2 = st) (hl : C p 3 = l) (hl2 : l ≤ 28) (hs : st + l ≤ 120) (hu : 1000 ≤ fu) : wp (FC b0) σ (m_X8_setEntry b0 fu (b0 + 18) (nI d) (nI k) (b0 + p) (nI n) σ) (fun _ τ => CM b0 τ (seE C d k o st l n) D) := by
  have L := h.lay
  have h74 := L.1
  have m1 : ptC C d (k / 8) % 2048 < 2048 := Nat.mod_lt _ (by omega)
  have k8 : k % 8 < 8 := Nat.mod_lt _ (by omega)
  obtain ⟨t1, t2, t3, t4, t5, t6, t7, t8, t9, t10, t11, t12, t13, t14, t15⟩ := pt_k hp h.ca
  refine wp_grw (FC_good b0) ?_
  have ev : (if (28 : Int32) < nI l then 28 else nI l) = nI l := if_neg (fun r => by have := (nI_ltP (a := 28) (b := l) (by omega) (by omega)).mp r; omega)
  rw [ckC_18 L, show nI k - nI k / (8 : Int32) * (8 : Int32) = nI (k % 8) from pk_rem (d := 8) (by omega) (by omega) (by omega), show nI (k % 8) * (32 : Int32) = nI (k % 8 * 32) from pk_mul _ 32, show nI k / (8 : Int32) = nI (k / 8) from nI_dv (d := 8) (by omega) (by omega) (by omega), pointer_c h.ca hd hk, cll_some, cellOf_c, cll_some, ltb_def, ckO_p t1 ⟨by omega, by omega⟩, ltb_def, t5, hl, ev]
  exact se37 hp m1 (by omega) hl2 hn hs l 0 fu σ C h hc hst (by omega) (by omega)
end DE
