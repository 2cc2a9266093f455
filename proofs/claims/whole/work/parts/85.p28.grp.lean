/-! ===== PURE: the reference's group ===== -/
def tcA (A : tS) : Nat := cn (fun b => A 51 b != 0) 0 6200
def rcA (A : tS) : Nat := cn (fun b => A 52 b != 0) 0 6200
def gsA (A : tS) : Nat := tcA A + (tcA A + rcA A + 119) / 120
def egA (A : tS) : tS := fl 50 0 0 64 (fl 52 0 0 6200 (fl 51 0 0 6200 A))
/-- sizes of the transactions from k on, m of them -/
def szL (B : tS) : Nat → Nat → Nat
  | _, 0 => 0
  | k, m + 1 => B 39 k + szL B (k + 1) m
section GR
variable {b0 fu : Nat} {σ τ : tM} {A : Nat → Nat → Nat} {N K : Nat} {J : tJ}
theorem count_loop {o : Nat} {p : Nat → Nat} (h : tk σ (b0 + o) = .inr (2, 6200)) (hi : o < tn σ) (hp : ∀ j, tI σ (b0 + o) j = nI (p j) ∧ p j < 2) : ∀ m k c f, k + m = 6200 → c ≤ k → m < f → L_X12_count_4 b0 fu f (b0 + o) (nI c) (nI k) σ = some (nI (c + cn (fun b => p b != 0) k m), σ) := by
  intro m
  induction m with
  | zero =>
    intro k c f hk hc hf
    obtain ⟨f, rfl⟩ : ∃ q, f = q + 1 := ⟨f - 1, by omega⟩
    unfold L_X12_count_4
    rw [ltb_def, ckR_p h ⟨by omega, by omega⟩, if_l (by omega) (by omega), if_pos (show 6200 ≤ k by omega)]
    rfl
  | succ m ih =>
    intro k c f hk hc hf
    obtain ⟨f, rfl⟩ : ∃ q, f = q + 1 := ⟨f - 1, by omega⟩
    obtain ⟨p1, p2⟩ := hp k
    unfold L_X12_count_4
    simp only [J_X12_count_19, ltb_def, ofi]
    rw [ckR_p h ⟨by omega, by omega⟩, if_l (by omega) (by omega), if_neg (show ¬ 6200 ≤ k by omega), ckI_n (by omega) (by omega), nI_cl (by omega), p1]
    show (if nI (p k) = nI 0 then _ else _) = _
    rw [if_e (by omega) (by omega), ih (k + 1) c f (by omega) (by omega) (by omega), ih (k + 1) (c + 1) f (by omega) (by omega) (by omega)]
    by_cases e : p k = 0
    · rw [if_pos e]; simp [cn, e]
    · rw [if_neg e]; simp [cn, e]; congr 1; omega
theorem count51 (h : RA b0 σ A) (hu : 10000 ≤ fu) : m_X12_count b0 fu (b0 + 51) σ = some (nI (tcA A), σ) := by
  have := count_loop (fu := fu) (p := A 51) (rkR51 h.lay) (by have := h.lay.1; omega) (fun j => ⟨rd_51 h j, bd_51 h j⟩) 6200 0 0 fu (by omega) (by omega) (by omega)
  unfold m_X12_count
  show grw σ (L_X12_count_4 b0 fu fu (b0 + 51) (nI 0) (nI 0) σ) = _
  rw [this, Nat.zero_add, grw_same]
  rfl
theorem count52 (h : RA b0 σ A) (hu : 10000 ≤ fu) : m_X12_count b0 fu (b0 + 52) σ = some (nI (rcA A), σ) := by
  have := count_loop (fu := fu) (p := A 52) (rkR52 h.lay) (by have := h.lay.1; omega) (fun j => ⟨rd_52 h j, bd_52 h j⟩) 6200 0 0 fu (by omega) (by omega) (by omega)
  unfold m_X12_count
  show grw σ (L_X12_count_4 b0 fu fu (b0 + 52) (nI 0) (nI 0) σ) = _
  rw [this, Nat.zero_add, grw_same]
  rfl
theorem tc_le (A : tS) : tcA A ≤ 6200 ∧ rcA A ≤ 6200 := ⟨cn_le _ _ _, cn_le _ _ _⟩
theorem groupSize_eq (h : RA b0 σ A) (hu : 10000 ≤ fu) : m_X12_groupSize b0 fu (b0 + 35) σ = some (nI (gsA A), σ) := by
  have L := h.lay
  obtain ⟨t1, t2⟩ := tc_le A
  unfold m_X12_groupSize
  rw [ckR_35 L, osm_p (rfR_35_26 L), count51 h hu, cll_some, ckR_35 L, osm_p (rfR_35_27 L), count52 h hu, cll_some]
  rw [show (119 : Int32) = nI 119 from rfl, show (120 : Int32) = nI 120 from rfl, nI_add, nI_add, nI_dv (by omega) (by omega) (by omega), nI_add, grw_same]
  rfl
theorem eg33 : ∀ m k f σ A, RM b0 J σ A N → k + m = 64 → m < f → wp (FR b0) σ (L_X12_emptyGroup_33 b0 fu f (b0 + 35) (nI k) σ) (fun _ τ => RM b0 J τ (fl 50 0 k m A) N) := by
  intro m
  induction m with
  | zero =>
    intro k f σ A h hk hf
    obtain ⟨f, rfl⟩ : ∃ q, f = q + 1 := ⟨f - 1, by omega⟩
    unfold L_X12_emptyGroup_33
    rw [ltb_def, show (64 : Int32) = nI 64 from rfl, if_l (by omega) (by omega), if_pos (show 64 ≤ k by omega)]
    exact wp_ret ((FR_good b0).1 _) h
  | succ m ih =>
    intro k f σ A h hk hf
    obtain ⟨f, rfl⟩ : ∃ q, f = q + 1 := ⟨f - 1, by omega⟩
    have L := h.ra.lay
    unfold L_X12_emptyGroup_33
    rw [ltb_def, show (64 : Int32) = nI 64 from rfl, if_l (by omega) (by omega), if_neg (show ¬ 64 ≤ k by omega), ckR_35 L, osm_p (rfR_35_25 L), ckR_50 L, ckI_n (by omega) (by omega), ltb_def, ofi, nI_cl (by omega)]
    exact wp_to (FR_good b0) (ih (k + 1) f _ _ (RM_fix (x := 0) h (o := 50) rfl (by decide) rfl (by decide)) (by omega) (by omega)) (FR_sI (refO_f 50 (by omega) (by omega)))
/-- both rows at once: the same as one behind the other -/
theorem fl2 : ∀ m k (A : tS), fl 52 0 (k + 1) m (fl 51 0 (k + 1) m (up2 (up2 A 51 k 0) 52 k 0)) = fl 52 0 k (m + 1) (fl 51 0 k (m + 1) A) := by
  intro m k A
  funext p q
  rw [fl_at, fl_at, fl_at, fl_at]
  unfold up2
  by_cases h1 : p = 51
  · subst h1
    by_cases h2 : k ≤ q ∧ q < k + (m + 1)
    · by_cases h3 : q = k
      · simp [h3]
      · have : k + 1 ≤ q ∧ q < k + 1 + m := by omega
        simp [h2, this]
    · have : ¬ (k + 1 ≤ q ∧ q < k + 1 + m) := by omega
      have h3 : q ≠ k := by omega
      simp [h2, this, h3]
  · by_cases h1 : p = 52
    · subst h1
      by_cases h2 : k ≤ q ∧ q < k + (m + 1)
      · by_cases h3 : q = k
        · simp [h3]
        · have : k + 1 ≤ q ∧ q < k + 1 + m := by omega
          simp [h2, this]
      · have : ¬ (k + 1 ≤ q ∧ q < k + 1 + m) := by omega
        have h3 : q ≠ k := by omega
        simp [h2, this, h3]
    · simp [*]
theorem eg2 (hu : 10000 ≤ fu) : ∀ m k f σ A, RM b0 J σ A N → k + m = 6200 → m < f → wp (FR b0) σ (L_X12_emptyGroup_2 b0 fu f (b0 + 35) (nI k) σ) (fun _ τ => RM b0 J τ (fl 50 0 0 64 (fl 52 0 k m (fl 51 0 k m A))) N) := by
  intro m
  induction m with
  | zero =>
    intro k f σ A h hk hf
    obtain ⟨f, rfl⟩ : ∃ q, f = q + 1 := ⟨f - 1, by omega⟩
    have L := h.ra.lay
    unfold L_X12_emptyGroup_2
    rw [ltb_def, ckR_35 L, osm_p (rfR_35_26 L), ckR_51 L, if_l (by omega) (by omega), if_pos (show 6200 ≤ k by omega)]
    exact eg33 64 0 fu σ A h (by omega) (by omega)
  | succ m ih =>
    intro k f σ A h hk hf
    obtain ⟨f, rfl⟩ : ∃ q, f = q + 1 := ⟨f - 1, by omega⟩
    have L := h.ra.lay
    unfold L_X12_emptyGroup_2
    simp only [rd_AI, rd_AL, rd_AIr, rd_ALr, rd_IL, rd_LI, rd_IA, rd_LA, rd_LIr, rd_ILr, ckR_sI, ckO_sI, ckR_sL, ckO_sL, ckR_sA, ckO_sA, ckR_sIr, ckO_sIr, ckR_sLr, ckO_sLr, ltb_def]
    rw [ckR_35 L, osm_p (rfR_35_26 L), ckR_51 L, if_l (by omega) (by omega), if_neg (show ¬ 6200 ≤ k by omega), osm_p (rfR_35_26 L), ckR_51 L, ckI_n (by omega) (by omega), osm_p (rfR_35_27 L), ckR_52 L, ckI_n (by omega) (by omega), ofi, nI_cl (by omega)]
    have h1 : RM b0 J (sI σ (b0 + 51) k (vp_nar .boolean (0 : Int32))) (up2 A 51 k 0) N := RM_fix (x := 0) h (o := 51) rfl (by decide) rfl (by decide)
    have h2 : RM b0 J (sI (sI σ (b0 + 51) k (vp_nar .boolean (0 : Int32))) (b0 + 52) k (vp_nar .boolean (0 : Int32))) (up2 (up2 A 51 k 0) 52 k 0) N := RM_fix (x := 0) h1 (o := 52) rfl (by decide) rfl (by decide)
    have := ih (k + 1) f _ _ h2 (by omega) (by omega)
    rw [fl2] at this
    exact wp_to (FR_good b0) this ((FR_good b0).2.1 _ _ _ (FR_sI (refO_f 51 (by omega) (by omega))) (FR_sI (refO_f 52 (by omega) (by omega))))
theorem emptyGroup_wp (h : RM b0 J σ A N) (hu : 10000 ≤ fu) : wp (FR b0) σ (m_X12_emptyGroup b0 fu (b0 + 35) σ) (fun _ τ => RM b0 J τ (egA A) N) := wp_grw (FR_good b0) (eg2 hu 6200 0 fu σ A h (by omega) (by omega))
/-- what the records say, in the memory -/
theorem RM.dy (h : RM b0 J σ A N) {f k : Nat} (hf : 37 ≤ f) (hf2 : f ≤ 43) (hk : k < J.2.1) : ∃ a n, tA σ (b0 + 35) f = some a ∧ tk σ a = .inr (0, n) ∧ (b0 ≤ a ∧ a < b0 + tn σ) ∧ k < n ∧ n < 2147483648 ∧ tI σ a k = nI (J.1 f k) ∧ J.1 f k < 2147483648 := by
  obtain ⟨-, -, ad, ln, U, un, hd, -⟩ := h
  have hD : isD f = true := by simp [isD]; omega
  obtain ⟨a1, a2, a3, a4, a5, a6, a7, a8⟩ := hd.1 f hD
  have c : cntD un J.2.1 J.2.2.1 f = J.2.1 := by unfold cntD; rw [if_neg (by omega), if_pos (by omega)]
  rw [c] at a5 a8
  have m : mix U J.1 f k = J.1 f k := by unfold mix; rw [if_neg (by omega)]
  obtain ⟨b1, b2⟩ := a8 k hk
  rw [m] at b1 b2
  exact ⟨ad f, ln f, a1, a2, ⟨by omega, a3⟩, by omega, by omega, b1, b2⟩
theorem RM.dl (h : RM b0 J σ A N) {k : Nat} (hk : k < J.2.2.1) : ∃ a n, tA σ (b0 + 35) 44 = some a ∧ tk σ a = .inr (0, n) ∧ (b0 ≤ a ∧ a < b0 + tn σ) ∧ k < n ∧ n < 2147483648 ∧ tI σ a k = nI (J.1 44 k) ∧ J.1 44 k < 2147483648 := by
  obtain ⟨-, -, ad, ln, U, un, hd, -⟩ := h
  obtain ⟨a1, a2, a3, a4, a5, a6, a7, a8⟩ := hd.1 44 rfl
  have c : cntD un J.2.1 J.2.2.1 44 = J.2.2.1 := rfl
  rw [c] at a5 a8
  have m : mix U J.1 44 k = J.1 44 k := rfl
  obtain ⟨b1, b2⟩ := a8 k hk
  rw [m] at b1 b2
  exact ⟨ad 44, ln 44, a1, a2, ⟨by omega, a3⟩, by omega, by omega, b1, b2⟩
theorem RM.nr (h : RM b0 J σ A N) : tI σ (b0 + 35) 36 = nI J.2.1 ∧ tI σ (b0 + 35) 45 = nI J.2.2.1 ∧ J.2.1 ≤ 524288 ∧ J.2.2.1 ≤ 524288 := by
  obtain ⟨-, -, ad, ln, U, un, hd, -⟩ := h
  obtain ⟨-, -, -, -, a5, a6, -⟩ := hd.1 37 rfl
  obtain ⟨-, -, -, -, c5, c6, -⟩ := hd.1 44 rfl
  have e1 : cntD un J.2.1 J.2.2.1 37 = J.2.1 := rfl
  have e2 : cntD un J.2.1 J.2.2.1 44 = J.2.2.1 := rfl
  exact ⟨hd.2.2.1.2.1, hd.2.2.1.2.2, by omega, by omega⟩
theorem freeOfLog_loop (h : RM b0 J σ A N) : ∀ m k c f, A 35 35 + k + m = A 35 28 → k + m ≤ J.2.1 → szL J.1 k m ≤ c → c ≤ 4096 → m < f → A 35 28 < 1000000 → L_X12_freeOfLog_12 b0 fu f (b0 + 35) (nI c) (nI (A 35 35 + k + 1)) σ = some (nI (c - szL J.1 k m), σ) := by
  have L := h.ra.lay
  intro m
  induction m with
  | zero =>
    intro k c f hk hr hs hc hf hl
    obtain ⟨f, rfl⟩ : ∃ q, f = q + 1 := ⟨f - 1, by omega⟩
    unfold L_X12_freeOfLog_12
    rw [ltb_def, ckR_35 L, rf_28 h.ra, if_t (by omega) (by omega), if_pos (show A 35 28 < A 35 35 + k + 1 by omega)]
    rfl
  | succ m ih =>
    intro k c f hk hr hs hc hf hl
    obtain ⟨f, rfl⟩ : ∃ q, f = q + 1 := ⟨f - 1, by omega⟩
    obtain ⟨a, n, q1, q2, q3, q4, q5, q6, q7⟩ := h.dy (f := 39) (k := k) (by omega) (by omega) (by omega)
    unfold szL at hs
    unfold L_X12_freeOfLog_12
    have e1 : nI (A 35 35 + k + 1) - nI (A 35 35) - 1 = nI k := by
      rw [nI_sb (by omega), show nI (A 35 35 + k + 1 - A 35 35) - 1 = nI (A 35 35 + k + 1 - A 35 35 - 1) from nI_sb (b := 1) (by omega)]
      congr 1; omega
    rw [ltb_def, ckR_35 L, rf_28 h.ra, if_t (by omega) (by omega), if_neg (show ¬ A 35 28 < A 35 35 + k + 1 by omega), osm_p q1, ckR_p q2 q3, rf_35 h.ra, e1, ckI_n q4 (by omega), nI_cl (by omega), q6, nI_sb (by omega), ltb_def, ltb_def, ofi, show A 35 35 + k + 1 + 1 = A 35 35 + (k + 1) + 1 by omega, ih (k + 1) (c - J.1 39 k) f (by omega) (by omega) (by omega) (by omega) (by omega) hl]
    congr 3
    show c - J.1 39 k - szL J.1 (k + 1) m = c - (J.1 39 k + szL J.1 (k + 1) m)
    omega
theorem freeOfLog_eq (h : RM b0 J σ A N) {g : Nat} (h1 : A 35 35 + g = A 35 32) (h2 : A 35 32 ≤ A 35 28) (h3 : A 35 28 - A 35 35 ≤ J.2.1) (hs : szL J.1 g (A 35 28 - A 35 32) ≤ A 35 6) (hl : A 35 6 ≤ 4096) (hx : A 35 28 < 1000000) (hu : 10000 ≤ fu) (hm : A 35 28 - A 35 32 < fu) : m_X12_freeOfLog b0 fu (b0 + 35) σ = some (nI (A 35 6 - szL J.1 g (A 35 28 - A 35 32)), σ) := by
  have L := h.ra.lay
  unfold m_X12_freeOfLog
  rw [ckR_35 L, rf_6 h.ra, rf_32 h.ra, ltb_def, ltb_def, nI_1, show A 35 32 + 1 = A 35 35 + g + 1 by omega, freeOfLog_loop h (A 35 28 - A 35 32) g (A 35 6) fu (by omega) (by omega) hs hl hm hx, grw_same]
end GR
