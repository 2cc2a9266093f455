/-! ===== PURE: the reference's format ===== -/
def e8 (r : Nat) : Nat → Nat → tS → tS
  | 0, _, A => A
  | m + 1, k, A => e8 r m (k + 1) (up2 A 36 (6080 + r * 274 + (34 + k * 30)) 64)
def eR : Nat → Nat → tS → tS
  | 0, _, A => A
  | m + 1, r, A => eR m (r + 1) (e8 r 8 0 A)
def fo1 (l r : Nat) (A : tS) : tS := up2 (up2 (up2 A 35 0 0) 35 6 l) 35 7 r
/-- memory as format leaves it -/
def fo2 (l r : Nat) (A : tS) : tS := up2 (eR 2000 0 (fl 36 0 0 554080 (fo1 l r A))) 36 0 2
def fo3 (A : tS) : tS := up2 (up2 (up2 (up2 (up2 (up2 A 35 15 0) 35 16 0) 35 18 1) 35 19 0) 35 20 0) 35 21 0
def fo4 (A : tS) : tS := up2 (up2 (up2 (up2 (up2 (up2 (up2 (up2 A 35 35 0) 35 28 0) 35 29 0) 35 30 0) 35 31 0) 35 32 0) 35 33 0) 35 46 0
def fo5 : Nat → Nat → tS → tS
  | 0, _, A => A
  | m + 1, k, A => fo5 m (k + 1) (up2 (up2 A 48 k 0) 49 k 0)
def fo6 (A : tS) : tS := up2 (up2 (up2 A 64 0 0) 64 1 0) 35 57 0
def foA (l r : Nat) (A : tS) : tS := fo6 (fl 71 0 0 16 (fo5 2000 0 (fl 46 0 0 6200 (egA (fo4 (fo3 (fl 39 0 0 6200 (fo2 l r A))))))))
def botJ (J : tJ) : tJ := (J.1, J.2.1, J.2.2.1, fun _ _ => False)
def foJ (J : tJ) (A : tS) : tJ := (J.1, 0, 0, fun p q => p = 0 ∧ q = A 36)
section FO
variable {b0 fu : Nat} {σ τ : tM} {A B U : tS} {N N' K K' : Nat} {J : tJ} {P : Int32 → tM → Prop}
theorem cn_mono {p q : Nat → Bool} : ∀ m k, (∀ i, p i = true → q i = true) → cn p k m ≤ cn q k m
  | 0, _, _ => Nat.le_refl _
  | m + 1, k, h => by
    have := cn_mono m (k + 1) h
    unfold cn
    by_cases e : p k = true
    · rw [e, h k e]
      simp only [if_pos]
      omega
    · by_cases e2 : q k = true
      · simp only [if_neg e, if_pos e2]
        omega
      · simp only [if_neg e, if_neg e2]
        omega
theorem usd_le0 {j : Nat} : usd (up2 A 36 j 0) ≤ usd A := by
  unfold usd
  refine cn_mono _ _ (fun i hi => ?_)
  by_cases e : 6080 + i * 274 = j
  · rw [e, up2_s] at hi
    simp at hi
  · rw [up2_j e] at hi
    exact hi
theorem RM_bot (h : RM b0 J σ A N) : RM b0 (botJ J) σ A N := by
  obtain ⟨hT, U, un, hR, hNu, hU, hm⟩ := RM_RL.mp h
  exact RM_RL.mpr ⟨hT, U, un, hR, hNu, hU, fun p s q => q.elim⟩
theorem RM_mem (h : RM b0 (botJ J) σ A N) {j x : Nat} (hx : x < bT j) (hu : usd (up2 A 36 j x) ≤ usd A) : RM b0 (botJ J) (sI σ (b0 + 36) j (nI x)) (up2 A 36 j x) N := by
  obtain ⟨hT, U, un, hR, hNu, hU, hm⟩ := RM_RL.mp h
  have b := bT_le j
  exact RM_RL.mpr ⟨okT_up hT hx, U, un, RL_fix (o := 36) hR rfl rfl (by show _ < 2147483648; omega), by omega, hU, fun p s q => q.elim⟩
theorem RM_un0 (h : RM b0 (botJ J) σ A N) : RM b0 (J.1, J.2.1, J.2.2.1, fun p q => p = 0 ∧ q = A 36) (sI σ (b0 + 35) 4 0) A N := by
  obtain ⟨hT, U, un, hR, hNu, hU, hm⟩ := RM_RL.mp h
  refine RM_RL.mpr ⟨hT, U, 0, RL_le (RL_un hR 0) (fun f hf => ?_), by omega, fun i hi => by omega, ?_⟩
  · show cntD 0 J.2.1 J.2.2.1 f ≤ cntD un J.2.1 J.2.2.1 f
    unfold cntD
    split
    · exact Nat.zero_le _
    · exact Nat.le_refl _
  · rintro p q ⟨rfl, rfl⟩
    exact ⟨Nat.le_refl _, rfl⟩
theorem RM_ns0 {X : tS} {nr nl : Nat} {Kp : Nat → (Nat → Nat) → Prop} (h : RM b0 (X, nr, nl, Kp) σ A N) : RM b0 (X, 0, nl, Kp) (sI σ (b0 + 35) 36 0) A N := by
  obtain ⟨hT, U, un, hR, hNu, hU, hm⟩ := RM_RL.mp h
  refine RM_RL.mpr ⟨hT, U, un, RL_le (RL_ns hR 0) (fun f hf => ?_), hNu, hU, hm⟩
  show cntD un 0 nl f ≤ cntD un nr nl f
  unfold cntD
  split
  · exact Nat.le_refl _
  · split
    · exact Nat.zero_le _
    · exact Nat.le_refl _
theorem RM_nl0 {X : tS} {nr nl : Nat} {Kp : Nat → (Nat → Nat) → Prop} (h : RM b0 (X, nr, nl, Kp) σ A N) : RM b0 (X, nr, 0, Kp) (sI σ (b0 + 35) 45 0) A N := by
  obtain ⟨hT, U, un, hR, hNu, hU, hm⟩ := RM_RL.mp h
  refine RM_RL.mpr ⟨hT, U, un, RL_le (RL_nl hR 0) (fun f hf => ?_), hNu, hU, hm⟩
  show cntD un nr 0 f ≤ cntD un nr nl f
  unfold cntD
  split
  · exact Nat.le_refl _
  · split
    · exact Nat.le_refl _
    · exact Nat.zero_le _
theorem bT_pos (j : Nat) : 0 < bT j := by
  unfold bT bN bR
  repeat (first | omega | split)
theorem fo46 : ∀ m k f σ A, RM b0 (botJ J) σ A N → k + m = 554080 → m < f → (∀ τ, RM b0 (botJ J) τ (fl 36 0 k m A) N → wp (FR b0) τ (L_X12_format_70 b0 fu fu (b0 + 35) 0 τ) P) → wp (FR b0) σ (L_X12_format_46 b0 fu f (b0 + 35) (nI k) σ) P := by
  intro m
  induction m with
  | zero =>
    intro k f σ A h hk hf hq
    obtain ⟨f, rfl⟩ : ∃ q, f = q + 1 := ⟨f - 1, by omega⟩
    have L := h.ra.lay
    unfold L_X12_format_46
    rw [ltb_def, ckR_35 L, osm_p (rfR_35_1 L), ckR_36 L, if_l (by omega) (by omega), if_pos (by omega)]
    exact hq σ h
  | succ m ih =>
    intro k f σ A h hk hf hq
    obtain ⟨f, rfl⟩ : ∃ q, f = q + 1 := ⟨f - 1, by omega⟩
    have L := h.ra.lay
    unfold L_X12_format_46
    rw [ltb_def, ckR_35 L, osm_p (rfR_35_1 L), ckR_36 L, if_l (by omega) (by omega), if_neg (by omega), osm_p (rfR_35_1 L), ckR_36 L, ckI_n (by omega) (by omega), nI_cl (by omega), ltb_def, ofi]
    refine wp_from (FR_good b0) (FR_sI (v := 0) (j := k) (refO_f 36 (by omega) (by omega))) ?_
    exact ih (k + 1) f _ (up2 A 36 k 0) (RM_mem h (bT_pos k) usd_le0) (by omega) (by omega) hq
theorem fo80 {r : Nat} (hr : r < 2000) {rc : Nat → Int32 → tM → Option (Int32 × tM)} : ∀ m k f σ A, RM b0 (botJ J) σ A N → k + m = 8 → m < f → (∀ τ, RM b0 (botJ J) τ (e8 r m k A) N → wp (FR b0) τ (rc (b0 + 35) (nI (r + 1)) τ) P) → wp (FR b0) σ (L_X12_format_80 b0 fu rc f (b0 + 35) (nI r) (nI k) σ) P := by
  intro m
  induction m with
  | zero =>
    intro k f σ A h hk hf hq
    obtain ⟨f, rfl⟩ : ∃ q, f = q + 1 := ⟨f - 1, by omega⟩
    unfold L_X12_format_80
    rw [ltb_def, show (8 : Int32) = nI 8 from rfl, if_l (by omega) (by omega), if_pos (by omega), ltb_def, ofi]
    exact hq σ h
  | succ m ih =>
    intro k f σ A h hk hf hq
    obtain ⟨f, rfl⟩ : ∃ q, f = q + 1 := ⟨f - 1, by omega⟩
    have L := h.ra.lay
    unfold L_X12_format_80
    rw [ltb_def, show (8 : Int32) = nI 8 from rfl, if_l (by omega) (by omega), if_neg (by omega), ckR_35 L, osm_p (rfR_35_1 L), show (34 : Int32) + nI k * (30 : Int32) = nI (34 + k * 30) from by rw [show nI k * (30 : Int32) = nI (k * 30) from pk_mul k 30]; exact nI_add 34 _, room_eq, cll_some, ckR_36 L, ckI_n (by omega) (by omega), nI_cl (by omega), ltb_def, ofi]
    refine wp_from (FR_good b0) (FR_sI (v := 64) (j := 6080 + r * 274 + (34 + k * 30)) (refO_f 36 (by omega) (by omega))) ?_
    refine ih (k + 1) f _ (up2 A 36 (6080 + r * 274 + (34 + k * 30)) 64) (RM_mem h ?_ (Nat.le_of_eq (usd_oth (fun q => by omega)))) (by omega) (by omega) hq
    rw [bT_r _ (by omega)]
    unfold bR
    repeat (first | omega | split)
theorem fo70 : ∀ m r f σ A, RM b0 (botJ J) σ A N → r + m = 2000 → m < f → (∀ τ, RM b0 (J.1, J.2.1, J.2.2.1, fun p q => p = 0 ∧ q = up2 (eR m r A) 36 0 2 36) τ (up2 (eR m r A) 36 0 2) N → wp (FR b0) τ (L_X12_format_132 b0 fu fu (b0 + 35) 0 τ) P) → 3000 ≤ fu → wp (FR b0) σ (L_X12_format_70 b0 fu f (b0 + 35) (nI r) σ) P := by
  intro m
  induction m with
  | zero =>
    intro r f σ A h hk hf hq hu
    obtain ⟨f, rfl⟩ : ∃ q, f = q + 1 := ⟨f - 1, by omega⟩
    have L := h.ra.lay
    unfold L_X12_format_70
    rw [ltb_def, show (2000 : Int32) = nI 2000 from rfl, if_l (by omega) (by omega), if_pos (by omega), ckR_35 L, osm_p (rfR_35_1 L), ckR_36 L, show (0 : Int32) = nI 0 from rfl, ckI_n (by omega) (by omega), nI_cl (by omega)]
    have h2 : RM b0 (botJ J) (sI σ (b0 + 36) 0 (nI 2)) (up2 A 36 0 2) N := RM_mem h (by decide) (Nat.le_of_eq (usd_oth (fun q => by omega)))
    refine wp_from (FR_good b0) ((FR_good b0).2.1 _ _ _ (FR_sI (v := nI 2) (j := 0) (refO_f 36 (by omega) (by omega))) (FR_sI (v := nI 0) (j := 4) (refO_f 35 (by omega) (by omega)))) ?_
    exact hq _ (RM_un0 h2)
  | succ m ih =>
    intro r f σ A h hk hf hq hu
    obtain ⟨f, rfl⟩ : ∃ q, f = q + 1 := ⟨f - 1, by omega⟩
    unfold L_X12_format_70
    rw [ltb_def, show (2000 : Int32) = nI 2000 from rfl, if_l (by omega) (by omega), if_neg (by omega)]
    exact fo80 (r := r) (by omega) 8 0 fu σ A h (by omega) (by omega) (fun τ q => ih (r + 1) f τ _ q (by omega) (by omega) hq hu)
theorem fo132 {J : tJ} : ∀ m k f σ A, RM b0 J σ A N → k + m = 6200 → m < f → (∀ τ, RM b0 J τ (fo3 (fl 39 0 k m A)) N → wp (FR b0) τ (J_X12_format_184 b0 fu (b0 + 35) τ) P) → wp (FR b0) σ (L_X12_format_132 b0 fu f (b0 + 35) (nI k) σ) P := by
  intro m
  induction m with
  | zero =>
    intro k f σ A h hk hf hq
    obtain ⟨f, rfl⟩ : ∃ q, f = q + 1 := ⟨f - 1, by omega⟩
    have L := h.ra.lay
    unfold L_X12_format_132
    rw [ltb_def, ckR_35 L, osm_p (rfR_35_8 L), ckR_39 L, if_l (by omega) (by omega), if_pos (by omega)]
    have h1 := RM_fix (o := 35) (j := 15) (x := 0) (v := 0) h rfl (by decide) rfl (by decide)
    have h2 := RM_fix (o := 35) (j := 16) (x := 0) (v := 0) h1 rfl (by decide) rfl (by decide)
    have h3 := RM_fix (o := 35) (j := 18) (x := 1) (v := 1) h2 rfl (by decide) rfl (by decide)
    have h4 := RM_fix (o := 35) (j := 19) (x := 0) (v := -1) h3 rfl (by decide) (show (-1 : Int32) = nI 0 - 1 by decide) (by decide)
    have h5 := RM_fix (o := 35) (j := 20) (x := 0) (v := 0) h4 rfl (by decide) rfl (by decide)
    have h6 := RM_fix (o := 35) (j := 21) (x := 0) (v := 0) h5 rfl (by decide) rfl (by decide)
    have f35 : ∀ (σ : tM) j v, FR b0 σ (sI σ (b0 + 35) j v) := fun σ j v => FR_sI (refO_f 35 (by omega) (by omega))
    refine wp_from (FR_good b0) ?_ (hq _ h6)
    exact (FR_good b0).2.1 _ _ _ (f35 _ _ _) ((FR_good b0).2.1 _ _ _ (f35 _ _ _) ((FR_good b0).2.1 _ _ _ (f35 _ _ _) ((FR_good b0).2.1 _ _ _ (f35 _ _ _) ((FR_good b0).2.1 _ _ _ (f35 _ _ _) (f35 _ _ _)))))
  | succ m ih =>
    intro k f σ A h hk hf hq
    obtain ⟨f, rfl⟩ : ∃ q, f = q + 1 := ⟨f - 1, by omega⟩
    have L := h.ra.lay
    unfold L_X12_format_132
    rw [ltb_def, ckR_35 L, osm_p (rfR_35_8 L), ckR_39 L, if_l (by omega) (by omega), if_neg (by omega), osm_p (rfR_35_8 L), ckR_39 L, ckI_n (by omega) (by omega), nI_cl (by omega), ltb_def, ofi]
    refine wp_from (FR_good b0) (FR_sI (v := 0) (j := k) (refO_f 39 (by omega) (by omega))) ?_
    exact ih (k + 1) f _ (up2 A 39 k 0) (RM_fix (o := 39) (x := 0) h rfl (by decide) rfl (by decide)) (by omega) (by omega) hq
theorem fo293 {J : tJ} : ∀ m k f σ A, RM b0 J σ A N → k + m = 16 → m < f → wp (FR b0) σ (L_X12_format_293 b0 fu f (b0 + 35) (nI k) σ) (fun v τ => v = nI (34 + A 35 6 + A 35 7) ∧ RM b0 J τ (fo6 (fl 71 0 k m A)) N) := by
  intro m
  induction m with
  | zero =>
    intro k f σ A h hk hf
    obtain ⟨f, rfl⟩ : ∃ q, f = q + 1 := ⟨f - 1, by omega⟩
    have L := h.ra.lay
    unfold L_X12_format_293
    rw [ltb_def, show (16 : Int32) = nI 16 from rfl, if_l (by omega) (by omega), if_pos (by omega), ckR_35 L, osm_p (rfR_35_48 L), ckR_64 L, show (0 : Int32) = nI 0 from rfl, show (1 : Int32) = nI 1 from rfl, ckI_n (by omega) (by omega), nI_cl (by omega)]
    have h1 : RM b0 J (sI σ (b0 + 64) 0 (nI 0)) (up2 A 64 0 0) N := RM_fix (o := 64) (j := 0) (x := 0) h rfl (by decide) rfl (by decide)
    have L1 := h1.ra.lay
    rw [osm_p (rfR_35_48 L1), ckR_64 L1, ckI_n (by omega) (by omega), nI_cl (by omega)]
    have h2 : RM b0 J (sI (sI σ (b0 + 64) 0 (nI 0)) (b0 + 64) 1 (nI 0)) (up2 (up2 A 64 0 0) 64 1 0) N := RM_fix (o := 64) (j := 1) (x := 0) h1 rfl (by decide) rfl (by decide)
    have h3 : RM b0 J (sI (sI (sI σ (b0 + 64) 0 (nI 0)) (b0 + 64) 1 (nI 0)) (b0 + 35) 57 (nI 0)) (fo6 A) N := RM_fix (o := 35) (j := 57) (x := 0) h2 rfl (by decide) rfl (by decide)
    rw [blocks_eq h3.ra, cll_some]
    have e6 : fo6 A 35 6 = A 35 6 := by unfold fo6; rw [up2_j (by decide), up2_o (by decide), up2_o (by decide)]
    have e7 : fo6 A 35 7 = A 35 7 := by unfold fo6; rw [up2_j (by decide), up2_o (by decide), up2_o (by decide)]
    refine wp_ret ?_ ⟨by rw [e6, e7], h3⟩
    exact (FR_good b0).2.1 _ _ _ (FR_sI (refO_f 64 (by omega) (by omega))) ((FR_good b0).2.1 _ _ _ (FR_sI (refO_f 64 (by omega) (by omega))) (FR_sI (refO_f 35 (by omega) (by omega))))
  | succ m ih =>
    intro k f σ A h hk hf
    obtain ⟨f, rfl⟩ : ∃ q, f = q + 1 := ⟨f - 1, by omega⟩
    have L := h.ra.lay
    unfold L_X12_format_293
    rw [ltb_def, show (16 : Int32) = nI 16 from rfl, if_l (by omega) (by omega), if_neg (by omega), ckR_35 L, osm_p (rfR_35_58 L), ckR_71 L, ckI_n (by omega) (by omega), nI_cl (by omega), ltb_def, ofi]
    refine wp_from (FR_good b0) (FR_sI (v := -1) (j := k) (refO_f 71 (by omega) (by omega))) ?_
    have := ih (k + 1) f _ (up2 A 71 k 0) (RM_fix (o := 71) (x := 0) (v := -1) h rfl (by decide) (show (-1 : Int32) = nI 0 - 1 by decide) (by decide)) (by omega) (by omega)
    rw [up2_o (by decide), up2_o (by decide)] at this
    exact this
theorem fo264 {J : tJ} (hu : 3000 ≤ fu) : ∀ m k f σ A, RM b0 J σ A N → k + m = 2000 → m < f → wp (FR b0) σ (L_X12_format_264 b0 fu f (b0 + 35) (nI k) σ) (fun v τ => v = nI (34 + A 35 6 + A 35 7) ∧ RM b0 J τ (fo6 (fl 71 0 0 16 (fo5 m k A))) N) := by
  intro m
  induction m with
  | zero =>
    intro k f σ A h hk hf
    obtain ⟨f, rfl⟩ : ∃ q, f = q + 1 := ⟨f - 1, by omega⟩
    unfold L_X12_format_264
    rw [ltb_def, show (2000 : Int32) = nI 2000 from rfl, if_l (by omega) (by omega), if_pos (by omega)]
    exact fo293 16 0 fu σ A h (by omega) (by omega)
  | succ m ih =>
    intro k f σ A h hk hf
    obtain ⟨f, rfl⟩ : ∃ q, f = q + 1 := ⟨f - 1, by omega⟩
    have L := h.ra.lay
    unfold L_X12_format_264
    rw [ltb_def, show (2000 : Int32) = nI 2000 from rfl, if_l (by omega) (by omega), if_neg (by omega), ckR_35 L, osm_p (rfR_35_23 L), ckR_48 L, ckI_n (by omega) (by omega), nI_cl (by omega)]
    have h1 : RM b0 J (sI σ (b0 + 48) k (vp_nar .boolean 0)) (up2 A 48 k 0) N := RM_fix (o := 48) (x := 0) h rfl (by decide) vb0 (by decide)
    have L1 := h1.ra.lay
    rw [osm_p (rfR_35_24 L1), ckR_49 L1, ckI_n (by omega) (by omega), ltb_def, ofi]
    refine wp_from (FR_good b0) ((FR_good b0).2.1 _ _ _ (FR_sI (v := vp_nar .boolean 0) (j := k) (refO_f 48 (by omega) (by omega))) (FR_sI (v := 0) (j := k) (refO_f 49 (by omega) (by omega)))) ?_
    have := ih (k + 1) f _ (up2 (up2 A 48 k 0) 49 k 0) (RM_fix (o := 49) (x := 0) (v := 0) h1 rfl (by decide) rfl (by decide)) (by omega) (by omega)
    rw [up2_o (by decide), up2_o (by decide), up2_o (by decide), up2_o (by decide)] at this
    exact this
theorem fo240 {J : tJ} (hu : 3000 ≤ fu) : ∀ m k f σ A, RM b0 J σ A N → k + m = 6200 → m < f → wp (FR b0) σ (L_X12_format_240 b0 fu f (b0 + 35) (nI k) σ) (fun v τ => v = nI (34 + A 35 6 + A 35 7) ∧ RM b0 J τ (fo6 (fl 71 0 0 16 (fo5 2000 0 (fl 46 0 k m A)))) N) := by
  intro m
  induction m with
  | zero =>
    intro k f σ A h hk hf
    obtain ⟨f, rfl⟩ : ∃ q, f = q + 1 := ⟨f - 1, by omega⟩
    have L := h.ra.lay
    unfold L_X12_format_240
    rw [ltb_def, ckR_35 L, osm_p (rfR_35_17 L), ckR_46 L, if_l (by omega) (by omega), if_pos (by omega)]
    exact fo264 hu 2000 0 fu σ A h (by omega) (by omega)
  | succ m ih =>
    intro k f σ A h hk hf
    obtain ⟨f, rfl⟩ : ∃ q, f = q + 1 := ⟨f - 1, by omega⟩
    have L := h.ra.lay
    unfold L_X12_format_240
    rw [ltb_def, ckR_35 L, osm_p (rfR_35_17 L), ckR_46 L, if_l (by omega) (by omega), if_neg (by omega), osm_p (rfR_35_17 L), ckR_46 L, ckI_n (by omega) (by omega), nI_cl (by omega), ltb_def, ofi]
    refine wp_from (FR_good b0) (FR_sI (v := 0) (j := k) (refO_f 46 (by omega) (by omega))) ?_
    have := ih (k + 1) f _ (up2 A 46 k 0) (RM_fix (o := 46) (x := 0) (v := 0) h rfl (by decide) rfl (by decide)) (by omega) (by omega)
    rw [up2_o (by decide), up2_o (by decide)] at this
    exact this
theorem fo_36 (A : tS) : (fo6 (fl 71 0 0 16 (fo5 2000 0 (fl 46 0 0 6200 (egA (fo4 (fo3 (fl 39 0 0 6200 A)))))))) 36 = A 36 := by
  have k5 : ∀ m k (A : tS), fo5 m k A 36 = A 36 := by
    intro m
    induction m with
    | zero => intro k A; rfl
    | succ m ih =>
      intro k A
      unfold fo5
      rw [ih, up2_rown (by decide), up2_rown (by decide)]
  unfold fo6 fo4 fo3 egA
  rw [up2_rown (by decide), up2_rown (by decide), up2_rown (by decide), fl_row (by decide), k5, fl_row (by decide), fl_row (by decide), fl_row (by decide), fl_row (by decide), up2_rown (by decide), up2_rown (by decide), up2_rown (by decide), up2_rown (by decide), up2_rown (by decide), up2_rown (by decide), up2_rown (by decide), up2_rown (by decide), up2_rown (by decide), up2_rown (by decide), up2_rown (by decide), up2_rown (by decide), up2_rown (by decide), up2_rown (by decide), fl_row (by decide)]
/-- behind the tests -/
theorem format_body {l r : Nat} (h : RM b0 J σ A N) (hl : l < 2147483648) (hr : r < 2147483648) (hu : 1200000 ≤ fu) : wp (FR b0) σ (L_X12_format_46 b0 fu fu (b0 + 35) 0 (sI (sI (sI σ (b0 + 35) 0 0) (b0 + 35) 6 (nI l)) (b0 + 35) 7 (nI r))) (fun v τ => v = nI (34 + l + r) ∧ RM b0 (foJ J (foA l r A)) τ (foA l r A) N) := by
  have h1 := RM_fix (o := 35) (j := 0) (x := 0) (v := 0) (RM_bot h) rfl (by decide) rfl (by decide)
  have h2 := RM_fix (o := 35) (j := 6) (x := l) (v := nI l) h1 rfl (by decide) rfl hl
  have h3 := RM_fix (o := 35) (j := 7) (x := r) (v := nI r) h2 rfl (by decide) rfl hr
  have f35 : ∀ (σ : tM) j v, FR b0 σ (sI σ (b0 + 35) j v) := fun σ j v => FR_sI (refO_f 35 (by omega) (by omega))
  have f3 : FR b0 σ (sI (sI (sI σ (b0 + 35) 0 0) (b0 + 35) 6 (nI l)) (b0 + 35) 7 (nI r)) := (FR_good b0).2.1 _ _ _ (f35 _ _ _) ((FR_good b0).2.1 _ _ _ (f35 _ _ _) (f35 _ _ _))
  refine wp_from (FR_good b0) f3 ?_
  refine fo46 554080 0 fu _ _ h3 (by omega) (by omega) (fun τ q => ?_)
  refine fo70 2000 0 fu τ _ q (by omega) (by omega) (fun τ q => ?_) (by omega)
  have q : RM b0 (J.1, J.2.1, J.2.2.1, fun p s => p = 0 ∧ s = fo2 l r A 36) τ (fo2 l r A) N := q
  have g6 : fo2 l r A 35 6 = l ∧ fo2 l r A 35 7 = r := by
    have k8 : ∀ (r m k : Nat) (A : tS), e8 r m k A 35 = A 35 := by
      intro r m
      induction m with
      | zero => intro k A; rfl
      | succ m ih =>
        intro k A
        unfold e8
        rw [ih, up2_rown (by decide)]
    have kR : ∀ (m r : Nat) (A : tS), eR m r A 35 = A 35 := by
      intro m
      induction m with
      | zero => intro r A; rfl
      | succ m ih =>
        intro r A
        unfold eR
        rw [ih, k8]
    unfold fo2
    rw [up2_rown (by decide), kR, fl_row (by decide)]
    unfold fo1
    exact ⟨by rw [up2_j (by decide), up2_s], up2_s _ _ _ _⟩
  have e36 : (foA l r A) 36 = fo2 l r A 36 := fo_36 (fo2 l r A)
  unfold foJ
  rw [e36]
  have eA : foA l r A = fo6 (fl 71 0 0 16 (fo5 2000 0 (fl 46 0 0 6200 (egA (fo4 (fo3 (fl 39 0 0 6200 (fo2 l r A)))))))) := rfl
  rw [eA]
  clear eA e36
  generalize fo2 l r A = A at q g6 ⊢
  refine fo132 6200 0 fu τ _ q (by omega) (by omega) (fun τ q => ?_)
  have q6 : fo3 (fl 39 0 0 6200 A) 35 6 = l ∧ fo3 (fl 39 0 0 6200 A) 35 7 = r := by
    unfold fo3
    constructor
    · rw [up2_j (by decide), up2_j (by decide), up2_j (by decide), up2_j (by decide), up2_j (by decide), up2_j (by decide), fl_row (by decide)]
      exact g6.1
    · rw [up2_j (by decide), up2_j (by decide), up2_j (by decide), up2_j (by decide), up2_j (by decide), up2_j (by decide), fl_row (by decide)]
      exact g6.2
  have e36 : fo3 (fl 39 0 0 6200 A) 36 = A 36 := by
    unfold fo3
    rw [up2_rown (by decide), up2_rown (by decide), up2_rown (by decide), up2_rown (by decide), up2_rown (by decide), up2_rown (by decide), fl_row (by decide)]
  generalize hX : fo3 (fl 39 0 0 6200 A) = X at q q6 e36 ⊢
  unfold J_X12_format_184 J_X12_format_234
  rw [ckR_35 q.ra.lay, ltb_def]
  have j1 := RM_fix (o := 35) (j := 35) (x := 0) (v := 0) q rfl (by decide) rfl (by decide)
  have j2 := RM_nl0 (RM_ns0 j1)
  have j3 := RM_fix (o := 35) (j := 28) (x := 0) (v := 0) j2 rfl (by decide) rfl (by decide)
  have j4 := RM_fix (o := 35) (j := 29) (x := 0) (v := 0) j3 rfl (by decide) rfl (by decide)
  have j5 := RM_fix (o := 35) (j := 30) (x := 0) (v := 0) j4 rfl (by decide) rfl (by decide)
  have j6 := RM_fix (o := 35) (j := 31) (x := 0) (v := 0) j5 rfl (by decide) rfl (by decide)
  have j7 := RM_fix (o := 35) (j := 32) (x := 0) (v := 0) j6 rfl (by decide) rfl (by decide)
  have j8 := RM_fix (o := 35) (j := 33) (x := 0) (v := 0) j7 rfl (by decide) rfl (by decide)
  have j9 := RM_fix (o := 35) (j := 46) (x := 0) (v := 0) j8 rfl (by decide) rfl (by decide)
  rw [ckR_35 j9.ra.lay]
  have ff : FR b0 τ (sI (sI (sI (sI (sI (sI (sI (sI (sI (sI τ (b0 + 35) 35 0) (b0 + 35) 36 0) (b0 + 35) 45 0) (b0 + 35) 28 0) (b0 + 35) 29 0) (b0 + 35) 30 0) (b0 + 35) 31 0) (b0 + 35) 32 0) (b0 + 35) 33 0) (b0 + 35) 46 0) := (FR_good b0).2.1 _ _ _ (f35 _ _ _) ((FR_good b0).2.1 _ _ _ (f35 _ _ _) ((FR_good b0).2.1 _ _ _ (f35 _ _ _) ((FR_good b0).2.1 _ _ _ (f35 _ _ _) ((FR_good b0).2.1 _ _ _ (f35 _ _ _) ((FR_good b0).2.1 _ _ _ (f35 _ _ _) ((FR_good b0).2.1 _ _ _ (f35 _ _ _) ((FR_good b0).2.1 _ _ _ (f35 _ _ _) ((FR_good b0).2.1 _ _ _ (f35 _ _ _) (f35 _ _ _)))))))))
  refine wp_from (FR_good b0) ff (wp_bind (FR_good b0) (emptyGroup_wp (fu := fu) j9 (by omega)) ?_)
  intro _ ρ q2
  have q6' : ∀ j, j = 6 ∨ j = 7 → egA (fo4 X) 35 j = X 35 j := by
    intro j hj
    unfold egA fo4
    rw [fl_row (by decide), fl_row (by decide), fl_row (by decide), up2_j (by omega), up2_j (by omega), up2_j (by omega), up2_j (by omega), up2_j (by omega), up2_j (by omega), up2_j (by omega), up2_j (by omega)]
  have := fo240 (fu := fu) (by omega) 6200 0 fu ρ _ q2 (by omega) (by omega)
  refine wp_mono this ?_
  intro v ρ2 _ ⟨x1, x2⟩
  have x1 : v = nI (34 + egA (fo4 X) 35 6 + egA (fo4 X) 35 7) := x1
  rw [q6' 6 (Or.inl rfl), q6' 7 (Or.inr rfl), q6.1, q6.2] at x1
  exact ⟨x1, x2⟩
/-- format: what it answers and leaves -/
def fmY (x y : Int32) (A : tS) (J : tJ) : Int × tP :=
  if x < 40 ∨ (4096 : Int32) < x ∨ y < 16 ∨ (2000 : Int32) < y then (-9, (up2 A 35 0 0, J)) else (((34 + x.toNatClampNeg + y.toNatClampNeg : Nat) : Int), (foA x.toNatClampNeg y.toNatClampNeg A, foJ J (foA x.toNatClampNeg y.toNatClampNeg A)))
theorem format_wp {x y : Int32} (h : RM b0 J σ A N) (hu : 1200000 ≤ fu) : wp (FR b0) σ (m_X12_format b0 fu (b0 + 35) x y σ) (fun v τ => v = iz (fmY x y A J).1 ∧ RM b0 (fmY x y A J).2.2 τ (fmY x y A J).2.1 N) := by
  have h1 : RM b0 J (sI σ (b0 + 35) 0 0) (up2 A 35 0 0) N := RM_fix (x := 0) h rfl (by decide) rfl (by decide)
  have fr : FR b0 σ (sI σ (b0 + 35) 0 0) := FR_sI (refO_f 35 (by omega) (by omega))
  refine wp_grw (FR_good b0) ?_
  unfold J_X12_format_31 fmY
  rw [ckR_35 h.ra.lay]
  by_cases c0 : x < 40
  · rw [if_pos c0, if_pos (Or.inl c0)]
    exact wp_ret fr ⟨rfl, h1⟩
  rw [if_neg c0]
  by_cases c1 : (4096 : Int32) < x
  · rw [if_pos c1, if_pos (Or.inr (Or.inl c1))]
    exact wp_ret fr ⟨rfl, h1⟩
  rw [if_neg c1]
  by_cases c2 : y < 16
  · rw [if_pos c2, if_pos (Or.inr (Or.inr (Or.inl c2)))]
    exact wp_ret fr ⟨rfl, h1⟩
  rw [if_neg c2]
  by_cases c3 : (2000 : Int32) < y
  · rw [if_neg (Int32.not_le.mpr c3), if_pos (Or.inr (Or.inr (Or.inr c3)))]
    exact wp_ret fr ⟨rfl, h1⟩
  rw [if_pos (Int32.not_lt.mp c3), if_neg (fun r => by
    rcases r with r | r | r | r
    · exact c0 r
    · exact c1 r
    · exact c2 r
    · exact c3 r)]
  have z0 : ¬ x < 0 := fun r => c0 (Int32.lt_trans r (by decide))
  have z1 : ¬ y < 0 := fun r => c2 (Int32.lt_trans r (by decide))
  obtain ⟨l, hl, rfl⟩ := nI_of z0
  obtain ⟨r, hr, rfl⟩ := nI_of z1
  rw [nI_cl hl, nI_cl hr]
  refine wp_mono (format_body h hl hr hu) ?_
  intro v ρ _ ⟨x1, x2⟩
  exact ⟨by rw [x1, iz_n], x2⟩
end FO
