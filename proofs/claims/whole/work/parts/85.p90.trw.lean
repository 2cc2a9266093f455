/-! ===== PURE: the class's Tree: small writes ===== -/
def snC (C : tS) (n i v : Nat) : tS := touC (up2 C 11 (64 + n * 16 + i) v) (2 + n / 2)
def hdV (k na p s : Nat) : Nat := s * 4294967296 + p * 65536 + na * 256 + k
def shC (C : tS) (n k na p s : Nat) : tS := snC C n 0 (hdV k na p s)
def spC (C : tS) (n i v : Nat) : tS := if i < 8 then snC C n (1 + i) v else swoC C (tbC C n i % 2048) ((i - 8) % 32) v
def iwC (C : tS) (a : Nat) : Nat → Nat → Bool
  | 0, _ => false
  | m + 1, d => if d = a then true else if d = 0 then false else iwC C a m (prC C d)
section TW
variable {b0 fu : Nat} {σ τ : tM} {C : tS} {D : tD}
theorem setNodeWord_c (h : CM b0 σ C D) (hc : ci C) {n i V : Nat} (hn : n < 64) (hi : i < 16) (hV : V < 18446744073709551616) : wp (FC b0) σ (m_X8_setNodeWord b0 fu (b0 + 18) (nI n) (nI i) (lN V) σ) (fun _ τ => CM b0 τ (snC C n i V) D) := by
  have L := h.lay
  refine wp_grw (FC_good b0) ?_
  unfold J_X8_setNodeWord_47
  rw [if_neg (nI_pos (by omega)), if_neg (nI_pos (by omega)), ix16, show (64 : Int32) = nI 64 from rfl, show (16 : Int32) = nI 16 from rfl, if_l (by omega) (by omega), if_neg (by omega), if_l (by omega) (by omega), if_neg (by omega), ckC_18 L, osm_p (rfC_18_1 L), ckC_11 L, ckI_n (by omega) (by omega), nI_cl (by omega)]
  have h1 := CM_fixL (j := 64 + n * 16 + i) h hV
  have L1 := h1.lay
  rw [osm_p (rfC_18_0 L1), ckC_10 L1, show nI n / (2 : Int32) = nI (n / 2) from nI_dv (d := 2) (by omega) (by omega) (by omega), show (2 : Int32) + nI (n / 2) = nI (2 + n / 2) from nI_add 2 _]
  refine wp_from (FC_good b0) (FC_sL h.rf (by omega)) (wp_bind (FC_good b0) (touch_c (fu := fu) h1 (ci_11 hc) (by omega)) ?_)
  intro _ ρ q
  exact wp_ret ((FC_good b0).1 _) q
theorem hd_or {k na p s : Nat} (hk : k < 256) (hna : na < 256) (hp : p < 256) (hs : s < 2147483648) : (((((nI s).toInt64) <<< (((32 : Int32)).toInt64 &&& 63)) ||| (((nI p).toInt64) <<< (((16 : Int32)).toInt64 &&& 63))) ||| (((nI na).toInt64) <<< (((8 : Int32)).toInt64 &&& 63))) ||| ((nI k).toInt64) = lN (hdV k na p s) := by
  rw [nI_l hs, nI_l (by omega), nI_l (by omega), nI_l (by omega), show lN s <<< (((32 : Int32)).toInt64 &&& 63) = lN (s * 2 ^ 32) from wb_shl (k := 32) s (by omega), show lN p <<< (((16 : Int32)).toInt64 &&& 63) = lN (p * 2 ^ 16) from wb_shl (k := 16) p (by omega), show lN na <<< (((8 : Int32)).toInt64 &&& 63) = lN (na * 2 ^ 8) from wb_shl (k := 8) na (by omega)]
  rw [g_or (k := 32) rfl (by omega) (by omega), show s * 2 ^ 32 + p * 2 ^ 16 = (s * 65536 + p) * 65536 by omega, g_or (k := 16) rfl (by omega) (by omega), show (s * 65536 + p) * 65536 + na * 2 ^ 8 = ((s * 65536 + p) * 256 + na) * 256 by omega, g_or (k := 8) rfl (by omega) (by omega)]
  unfold hdV
  rw [show ((s * 65536 + p) * 256 + na) * 256 + k = s * 4294967296 + p * 65536 + na * 256 + k by omega]
theorem hdV_lt {k na p s : Nat} (hk : k < 256) (hna : na < 256) (hp : p < 256) (hs : s < 2147483648) : hdV k na p s < 18446744073709551616 := by
  unfold hdV
  omega
theorem setHeader_c (h : CM b0 σ C D) (hc : ci C) {n k na p s : Nat} (hn : n < 64) (hk : k < 256) (hna : na < 256) (hp : p < 256) (hs : s < 2147483648) : wp (FC b0) σ (m_X8_setHeader b0 fu (b0 + 18) (nI n) (nI k) (nI na) (nI p) (nI s) σ) (fun _ τ => CM b0 τ (shC C n k na p s) D) := by
  refine wp_grw (FC_good b0) ?_
  rw [ckC_18 h.lay, hd_or hk hna hp hs]
  refine wp_bind (FC_good b0) (setNodeWord_c (fu := fu) (i := 0) h hc hn (by omega) (hdV_lt hk hna hp hs)) ?_
  intro _ ρ q
  exact wp_ret ((FC_good b0).1 _) q
theorem kna (C : tS) (n : Nat) : kiC C n < 256 ∧ naC C n < 256 ∧ prC C n < 256 := ⟨Nat.mod_lt _ (by omega), Nat.mod_lt _ (by omega), Nat.mod_lt _ (by omega)⟩
theorem setNames_c (h : CM b0 σ C D) (hc : ci C) {n x : Nat} (hn : n < 64) (hs : szC C n < 2147483648) (hx : x < 256) : wp (FC b0) σ (m_X8_setNames b0 fu (b0 + 18) (nI n) (nI x) σ) (fun _ τ => CM b0 τ (shC C n (kiC C n) x (prC C n) (szC C n)) D) := by
  obtain ⟨b1, b2, b3⟩ := kna C n
  have L := h.lay
  refine wp_grw (FC_good b0) ?_
  have ex : (if (0 : Int32) < nI x then nI x else 0) = nI x := by
    by_cases c : x = 0
    · subst c
      rfl
    · have c2 : (0 : Int32) < nI x := (nI_ltP (a := 0) (b := x) (by omega) (by omega)).mpr (by omega)
      rw [if_pos c2]
  rw [ckC_18 L, kind_c h.ca hn, cll_some, ckC_18 L, parent_c h.ca hn, cll_some, ckC_18 L, size_c h.ca hn, cll_some, ckC_18 L, ex]
  refine wp_bind (FC_good b0) (setHeader_c (fu := fu) h hc hn b1 hx b3 hs) ?_
  intro _ ρ q
  exact wp_ret ((FC_good b0).1 _) q
theorem setParent_c (h : CM b0 σ C D) (hc : ci C) {n x : Nat} (hn : n < 64) (hs : szC C n < 2147483648) (hx : x < 256) : wp (FC b0) σ (m_X8_setParent b0 fu (b0 + 18) (nI n) (nI x) σ) (fun _ τ => CM b0 τ (shC C n (kiC C n) (naC C n) x (szC C n)) D) := by
  obtain ⟨b1, b2, b3⟩ := kna C n
  have L := h.lay
  refine wp_grw (FC_good b0) ?_
  rw [ckC_18 L, kind_c h.ca hn, cll_some, ckC_18 L, names_c h.ca hn, cll_some, ckC_18 L, size_c h.ca hn, cll_some, ckC_18 L]
  refine wp_bind (FC_good b0) (setHeader_c (fu := fu) h hc hn b1 b2 hx hs) ?_
  intro _ ρ q
  exact wp_ret ((FC_good b0).1 _) q
theorem setSize_c (h : CM b0 σ C D) (hc : ci C) {n x : Nat} (hn : n < 64) (hx : x < 2147483648) : wp (FC b0) σ (m_X8_setSize b0 fu (b0 + 18) (nI n) (nI x) σ) (fun _ τ => CM b0 τ (shC C n (kiC C n) (naC C n) (prC C n) x) D) := by
  obtain ⟨b1, b2, b3⟩ := kna C n
  have L := h.lay
  refine wp_grw (FC_good b0) ?_
  rw [ckC_18 L, kind_c h.ca hn, cll_some, ckC_18 L, names_c h.ca hn, cll_some, ckC_18 L, parent_c h.ca hn, cll_some, ckC_18 L]
  refine wp_bind (FC_good b0) (setHeader_c (fu := fu) h hc hn b1 b2 b3 hx) ?_
  intro _ ρ q
  exact wp_ret ((FC_good b0).1 _) q
theorem noteChange_c (h : CM b0 σ C D) {n v : Nat} (hn : n < 64) (hv : v < 2) : wp (FC b0) σ (m_X8_noteChange b0 fu (b0 + 18) (nI n) (nI v) σ) (fun _ τ => CM b0 τ (up2 C 19 n v) D) := by
  have L := h.lay
  refine wp_grw (FC_good b0) ?_
  unfold J_X8_noteChange_18
  have e : vp_nar .byte ((nI v).toInt8.toInt32) = nI v := by
    have : v = 0 ∨ v = 1 := by omega
    rcases this with rfl | rfl <;> decide
  rw [if_neg (nI_pos (by omega)), show (64 : Int32) = nI 64 from rfl, if_l (by omega) (by omega), if_neg (by omega), ckC_18 L, osm_p (rfC_18_2 L), ckC_19 L, ckI_n hn (by omega), nI_cl (by omega), e]
  exact wp_ret (FC_sI h.rf (by omega)) (CM_fix (o := 19) (j := n) (x := v) h rfl rfl hv)
theorem fill_b {o len : Nat} (ho : isC o 0 = true) (hj : ∀ j, isC o j = true) (hk : ∀ σ C, CM b0 σ C D → tk σ (b0 + o) = .inr (1, len)) (hl : len < 2147483648) (hd : ∀ j, decC o j 0 = 0) (hb : 0 < bndC o) : ∀ m k f σ C, CM b0 σ C D → k + m = len → m < f → wp (FC b0) σ (L_J7_fill_031fb_5 b0 fu f (b0 + o) 0 (nI k) (nI len) σ) (fun _ τ => CM b0 τ (fl o 0 k m C) D) := by
  have o33 := isC_lt ho
  intro m
  induction m with
  | zero =>
    intro k f σ C h hm hf
    obtain ⟨f, rfl⟩ : ∃ q, f = q + 1 := ⟨f - 1, by omega⟩
    unfold L_J7_fill_031fb_5
    rw [ltb_def, if_l (by omega) (by omega), if_pos (by omega)]
    exact wp_ret ((FC_good b0).1 _) h
  | succ m ih =>
    intro k f σ C h hm hf
    obtain ⟨f, rfl⟩ : ∃ q, f = q + 1 := ⟨f - 1, by omega⟩
    have h74 := h.lay.1
    unfold L_J7_fill_031fb_5
    rw [ltb_def, if_l (by omega) (by omega), if_neg (by omega), ckR_p (hk σ C h) ⟨by omega, by omega⟩, ckI_n (by omega) (by omega), nI_cl (by omega), ltb_def, ofi]
    refine wp_from (FC_good b0) (FC_sI (o := o) (j := k) (v := vp_nar .byte 0) h.rf (by omega)) (ih (k + 1) f _ (up2 C o k 0) (CM_fix (o := o) (j := k) (x := 0) h (hj k) ?_ hb) (by omega) (by omega))
    rw [hd]
    decide
theorem forgetChanges_c (h : CM b0 σ C D) (hu : 3000 ≤ fu) : wp (FC b0) σ (m_X8_forgetChanges b0 fu (b0 + 18) σ) (fun _ τ => CM b0 τ (fl 19 0 0 64 C) D) := by
  have L := h.lay
  refine wp_grw (FC_good b0) ?_
  rw [ckC_18 L, osm_p (rfC_18_2 L)]
  have : wp (FC b0) σ (m_J7_fill_031fb b0 fu (b0 + 19) 0 σ) (fun _ τ => CM b0 τ (fl 19 0 0 64 C) D) := by
    refine wp_grw (FC_good b0) ?_
    rw [ckC_19 L, ltb_def]
    exact fill_b (o := 19) (len := 64) rfl (fun _ => rfl) (fun σ C q => rkC19 q.lay) (by omega) (fun _ => rfl) (by decide) 64 0 fu σ C h (by omega) (by omega)
  refine wp_bind (FC_good b0) this ?_
  intro _ ρ q
  exact wp_ret ((FC_good b0).1 _) q
theorem isChanged_c (h : CA b0 σ C) {n : Nat} (hn : n < 64) : m_X8_isChanged b0 fu (b0 + 18) (nI n) σ = some (nI (C 19 n), σ) := by
  have L := h.lay
  have b := cb_19 h n
  unfold m_X8_isChanged J_X8_isChanged_23 J_X8_isChanged_24
  rw [if_neg (nI_pos (by omega)), show (64 : Int32) = nI 64 from rfl, if_l (by omega) (by omega), if_neg (by omega), ckC_18 L, osm_p (rfC_18_2 L), ckC_19 L, ckI_n hn (by omega), nI_cl (by omega), cd_19 h]
  show grw σ (if nI (C 19 n) = nI 0 then ckZ (nI 0) _ else ckZ (nI 1) _) = _
  rw [if_e (by omega) (by omega), ckZ_0, ckZ_1]
  by_cases c : C 19 n = 0
  · rw [if_pos c, c]
    exact grw_same
  · rw [if_neg c, show C 19 n = 1 by omega]
    exact grw_same
theorem low2 (h : CA b0 σ C) : ∀ m k f, k + m = 64 → m < f → L_X8_lowestUnused_2 b0 fu f (b0 + 18) (nI k) σ = some (if sr (fun n => kiC C n == 0) k m = 64 then -1 else nI (sr (fun n => kiC C n == 0) k m), σ) := by
  have L := h.lay
  intro m
  induction m with
  | zero =>
    intro k f hk hf
    obtain ⟨f, rfl⟩ : ∃ q, f = q + 1 := ⟨f - 1, by omega⟩
    have : k = 64 := by omega
    subst this
    unfold L_X8_lowestUnused_2
    rw [ltb_def, if_pos (by decide)]
    rfl
  | succ m ih =>
    intro k f hk hf
    obtain ⟨f, rfl⟩ : ∃ q, f = q + 1 := ⟨f - 1, by omega⟩
    have b1 := (kna C k).1
    unfold L_X8_lowestUnused_2
    rw [ltb_def, show (64 : Int32) = nI 64 from rfl, if_l (by omega) (by omega), if_neg (by omega), ckC_18 L, kind_c h (by omega), cll_some]
    show (if nI (kiC C k) = nI 0 then _ else _) = _
    rw [if_e (by omega) (by omega), ltb_def, ofi, ih (k + 1) f (by omega) (by omega), show sr (fun n => kiC C n == 0) k (m + 1) = if (kiC C k == 0) = true then k else sr (fun n => kiC C n == 0) (k + 1) m from rfl]
    by_cases c : kiC C k = 0
    · rw [if_pos c, if_pos (show (kiC C k == 0) = true by simp [c]), if_neg (by omega)]
    · rw [if_neg c, if_neg (show ¬ (kiC C k == 0) = true by simp [c])]
theorem lowestUnused_c (h : CA b0 σ C) (hu : 100 ≤ fu) : m_X8_lowestUnused b0 fu (b0 + 18) σ = some (if sr (fun n => kiC C n == 0) 0 64 = 64 then -1 else nI (sr (fun n => kiC C n == 0) 0 64), σ) := by
  unfold m_X8_lowestUnused
  have := low2 (fu := fu) h 64 0 fu (by omega) (by omega)
  rw [show nI 0 = (0 : Int32) from rfl] at this
  rw [this]
  exact grw_same
theorem cnu4 (h : CA b0 σ C) : ∀ m k c f, k + m = 64 → m < f → c + m < 100000 → L_X8_countUnused_4 b0 fu f (b0 + 18) (nI c) (nI k) σ = some (nI (c + cn (fun n => kiC C n == 0) k m), σ) := by
  have L := h.lay
  intro m
  induction m with
  | zero =>
    intro k c f hk hf hc
    obtain ⟨f, rfl⟩ : ∃ q, f = q + 1 := ⟨f - 1, by omega⟩
    unfold L_X8_countUnused_4
    rw [ltb_def, show (64 : Int32) = nI 64 from rfl, if_l (by omega) (by omega), if_pos (by omega)]
    rfl
  | succ m ih =>
    intro k c f hk hf hc
    obtain ⟨f, rfl⟩ : ∃ q, f = q + 1 := ⟨f - 1, by omega⟩
    have b1 := (kna C k).1
    unfold L_X8_countUnused_4 J_X8_countUnused_24
    rw [ltb_def, show (64 : Int32) = nI 64 from rfl, if_l (by omega) (by omega), if_neg (by omega), ckC_18 L, kind_c h (by omega), cll_some]
    show (if nI (kiC C k) = nI 0 then _ else _) = _
    have e1 : nI c + (1 : Int32) = nI (c + 1) := nI_add c 1
    have e0 : nI c + (0 : Int32) = nI c := nI_add c 0
    rw [if_e (by omega) (by omega), ltb_def, ltb_def, ltb_def, ltb_def, ofi, e1, e0, ih (k + 1) (c + 1) f (by omega) (by omega) (by omega), ih (k + 1) c f (by omega) (by omega) (by omega)]
    show _ = some (nI (c + ((if (kiC C k == 0) = true then 1 else 0) + cn (fun n => kiC C n == 0) (k + 1) m)), σ)
    by_cases z : kiC C k = 0
    · rw [if_pos z, if_pos (by simp [z]), Nat.add_assoc]
    · rw [if_neg z, if_neg (by simp [z]), Nat.zero_add]
theorem countUnused_c (h : CA b0 σ C) (hu : 100 ≤ fu) : m_X8_countUnused b0 fu (b0 + 18) σ = some (nI (cn (fun n => kiC C n == 0) 0 64), σ) := by
  unfold m_X8_countUnused
  have := cnu4 (fu := fu) h 64 0 0 fu (by omega) (by omega) (by omega)
  rw [show nI 0 = (0 : Int32) from rfl, Nat.zero_add] at this
  rw [this]
  exact grw_same
theorem iw5 (h : CA b0 σ C) (hp : ∀ n, n < 64 → prC C n < 64) {a : Nat} (ha : a < 64) : ∀ m k d f, k + m = 65 → d < 64 → m < f → L_X8_isWithin_5 b0 fu f (b0 + 18) (nI a) (nI d) (nI k) σ = some (nI (b2n (iwC C a m d)), σ) := by
  have L := h.lay
  intro m
  induction m with
  | zero =>
    intro k d f hk hd hf
    obtain ⟨f, rfl⟩ : ∃ q, f = q + 1 := ⟨f - 1, by omega⟩
    unfold L_X8_isWithin_5
    rw [ltb_def, show (64 : Int32) = nI 64 from rfl, if_t (by omega) (by omega), if_pos (by omega)]
    rfl
  | succ m ih =>
    intro k d f hk hd hf
    obtain ⟨f, rfl⟩ : ∃ q, f = q + 1 := ⟨f - 1, by omega⟩
    unfold L_X8_isWithin_5 iwC
    rw [ltb_def, show (64 : Int32) = nI 64 from rfl, if_t (by omega) (by omega), if_neg (by omega), if_e (by omega) (by omega)]
    by_cases c1 : d = a
    · rw [if_pos c1, if_pos c1]
      rfl
    · rw [if_neg c1, if_neg c1]
      show (if nI d = nI 0 then _ else _) = _
      rw [if_e (by omega) (by omega)]
      by_cases c2 : d = 0
      · rw [if_pos c2, if_pos c2]
        rfl
      · rw [if_neg c2, if_neg c2, ckC_18 L, parent_c h hd, cll_some, ltb_def, ofi]
        exact ih (k + 1) (prC C d) f (by omega) (hp d hd) (by omega)
theorem isWithin_c (h : CA b0 σ C) (hp : ∀ n, n < 64 → prC C n < 64) {d a : Nat} (hd : d < 64) (ha : a < 64) (hu : 100 ≤ fu) : m_X8_isWithin b0 fu (b0 + 18) (nI d) (nI a) σ = some (nI (b2n (iwC C a 65 d)), σ) := by
  unfold m_X8_isWithin
  have := iw5 (fu := fu) h hp ha 65 0 d fu (by omega) hd (by omega)
  rw [show nI 0 = (0 : Int32) from rfl] at this
  rw [this]
  exact grw_same
theorem setPointer_c (h : CM b0 σ C D) (hc : ci C) {n i V : Nat} (hn : n < 64) (hi : i < 1064) (hV : V < 18446744073709551616) : wp (FC b0) σ (m_X8_setPointer b0 fu (b0 + 18) (nI n) (nI i) (lN V) σ) (fun _ τ => CM b0 τ (spC C n i V) D) := by
  have L := h.lay
  refine wp_grw (FC_good b0) ?_
  unfold J_X8_setPointer_42 spC
  show wp (FC b0) σ (if nI 8 ≤ nI i then _ else _) _
  rw [if_l (by omega) (by omega)]
  by_cases c : i < 8
  · rw [if_neg (by omega), if_pos c, ckC_18 L, show (1 : Int32) + nI i = nI (1 + i) from nI_add 1 i]
    refine wp_bind (FC_good b0) (setNodeWord_c (fu := fu) h hc hn (by omega) hV) ?_
    intro _ ρ q
    exact wp_ret ((FC_good b0).1 _) q
  · have m1 : tbC C n i % 2048 < 2048 := Nat.mod_lt _ (by omega)
    have e6 : nI i - (8 : Int32) = nI (i - 8) := nI_sb (b := 8) (by omega)
    have e7 : nI (i - 8) - nI (i - 8) / (32 : Int32) * (32 : Int32) = nI ((i - 8) % 32) := pk_rem (d := 32) (by omega) (by omega) (by omega)
    rw [if_pos (by omega), if_neg c, ckC_18 L, osm_p (rfC_18_0 L), table_c h.ca hn (by omega) hi, cll_some, cellOf_c, cll_some, ckC_10 L, e6, e7]
    refine wp_bind (FC_good b0) (setWord_c (fu := fu) h hc (by omega) (Nat.mod_lt _ (by omega)) hV) ?_
    intro _ ρ q
    exact wp_ret ((FC_good b0).1 _) q
theorem ci_sn {n i v : Nat} (h : ci C) : ci (snC C n i v) := ci_tou (ci_11 h)
theorem ci_swo {c i v : Nat} (h : ci C) : ci (swoC C c i v) := by
  unfold swoC
  split
  · exact ci_tou (ci_11 h)
  · exact h
theorem ci_sp {n i v : Nat} (h : ci C) : ci (spC C n i v) := by
  unfold spC
  split
  · exact ci_sn h
  · exact ci_swo h
end TW
