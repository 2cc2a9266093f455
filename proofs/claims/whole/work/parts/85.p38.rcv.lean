/-! ===== PURE: the reference keeps what was chosen, and looks whether transactions are whole ===== -/
def kcL : Nat → Nat → tS → tS
  | 0, _, A => A
  | n + 1, s, A => kcL n ((s + 1) % 256) (if A 68 (A 42 s) + 1 = A 46 (A 42 s) then kpA (up2 A 68 (A 42 s) (A 68 (A 42 s) + 1)) s else up2 A 68 (A 42 s) (A 68 (A 42 s) + 1))
def kcA (A : tS) : tS := fl 46 0 0 6200 (up2 (kcL (A 35 16) (A 35 15) (fl 68 0 0 6200 A)) 35 16 0)
def whB (A : tS) (J : tJ) (k i : Nat) : Nat := 34 + (J.1 38 k + i) % A 35 6
def whJ (A : tS) (J : tJ) (k : Nat) : Bool := decide (k < J.2.1 ∧ sr (fun i => !(A 39 (whB A J k i) == 2 && A 40 (whB A J k i) == J.1 37 k)) 0 (J.1 39 k) = J.1 39 k)
section RV
variable {b0 fu : Nat} {σ τ : tM} {A B U : tS} {N K K' : Nat} {J : tJ}
theorem kc97 : ∀ m k f σ A, RM b0 J σ A N → k + m = 6200 → m < f → wp (FR b0) σ (L_X12_keepChosen_97 b0 fu f (b0 + 35) (nI k) σ) (fun _ τ => RM b0 J τ (fl 46 0 k m A) N) := by
  intro m
  induction m with
  | zero =>
    intro k f σ A h hk hf
    obtain ⟨f, rfl⟩ : ∃ q, f = q + 1 := ⟨f - 1, by omega⟩
    have L := h.ra.lay
    unfold L_X12_keepChosen_97
    rw [ltb_def, ckR_35 L, osm_p (rfR_35_17 L), ckR_46 L, if_l (by omega) (by omega), if_pos (show 6200 ≤ k by omega)]
    exact wp_ret ((FR_good b0).1 _) h
  | succ m ih =>
    intro k f σ A h hk hf
    obtain ⟨f, rfl⟩ : ∃ q, f = q + 1 := ⟨f - 1, by omega⟩
    have L := h.ra.lay
    unfold L_X12_keepChosen_97
    rw [ltb_def, ckR_35 L, osm_p (rfR_35_17 L), ckR_46 L, if_l (by omega) (by omega), if_neg (show ¬ 6200 ≤ k by omega), osm_p (rfR_35_17 L), ckR_46 L, ckI_n (by omega) (by omega), ltb_def, ofi, nI_cl (by omega)]
    exact wp_to (FR_good b0) (ih (k + 1) f _ _ (RM_fix (x := 0) h (o := 46) rfl (by decide) rfl (by decide)) (by omega) (by omega)) (FR_sI (refO_f 46 (by omega) (by omega)))
theorem kc31 (hu : 10000 ≤ fu) {V : Nat} (hV : V ≤ 256) : ∀ n s k f σ A, RM b0 J σ A N → k + n = V → A 35 16 = V → s < 256 → n < f → A 35 6 ≤ 4096 ∧ A 35 7 ≤ 2000 → (∀ i, i < n → slOk A ((s + i) % 256)) → (∀ b, A 68 b ≤ k) → wp (FR b0) σ (L_X12_keepChosen_31 b0 fu f (b0 + 35) (nI s) (nI k) σ) (fun _ τ => RM b0 J τ (fl 46 0 0 6200 (up2 (kcL n s A) 35 16 0)) N) := by
  intro n
  induction n with
  | zero =>
    intro s k f σ A h hk h16 hs hf h67 hsl h68
    obtain ⟨f, rfl⟩ : ∃ q, f = q + 1 := ⟨f - 1, by omega⟩
    have L := h.ra.lay
    unfold L_X12_keepChosen_31
    rw [ltb_def, ckR_35 L, rf_16 h.ra, if_l (by omega) (by omega), if_pos (show A 35 16 ≤ k by omega)]
    have h1 : RM b0 J (sI σ (b0 + 35) 16 0) (up2 A 35 16 0) N := RM_fix (x := 0) h rfl (by decide) rfl (by decide)
    exact wp_to (FR_good b0) (kc97 6200 0 fu _ _ h1 (by omega) (by omega)) (FR_sI (refO_f 35 (by omega) (by omega)))
  | succ n ih =>
    intro s k f σ A h hk h16 hs hf h67 hsl h68
    obtain ⟨f, rfl⟩ : ∃ q, f = q + 1 := ⟨f - 1, by omega⟩
    have L := h.ra.lay
    have ho := hsl 0 (by omega)
    rw [Nat.add_zero, show s % 256 = s by omega] at ho
    obtain ⟨o1, o2⟩ := id ho
    have hb : A 42 s < 6200 := by omega
    have b46 := bd_46 h.ra (A 42 s)
    have b68 := h68 (A 42 s)
    unfold L_X12_keepChosen_31 J_X12_keepChosen_76 kcL
    simp only [rd_AI, rd_AL, rd_AIr, rd_ALr, rd_IL, rd_LI, rd_IA, rd_LA, rd_LIr, rd_ILr, ckR_sI, ckO_sI, ckR_sL, ckO_sL, ckR_sA, ckO_sA, ckR_sIr, ckO_sIr, ckR_sLr, ckO_sLr, ltb_def, ofi]
    rw [ckR_35 L, rf_16 h.ra, if_l (by omega) (by omega), if_neg (show ¬ A 35 16 ≤ k by omega), osm_p (rfR_35_11 L), ckR_42 L, ckI_n hs (by omega), nI_cl (by omega), rd_42 h.ra, osm_p (rfR_35_54 L), ckR_68 L, ckI_n hb (by omega), ckI_n hb (by omega), osm_p (rfR_35_54 L), ckR_68 L, ckI_n hb (by omega), osm_p (rfR_35_17 L), ckR_46 L, ckI_n hb (by omega), nI_cl (by omega), rd_IIs, rd_IIa (show b0 + 46 ≠ b0 + 68 by omega), rd_46 h.ra, rd_68 h.ra, nI_1, if_e (by omega) b46]
    rw [show (256 : Int32) = nI 256 from rfl, show nI s + 1 = nI (s + 1) from nI_1 s, nI_dv (by omega) (by omega) (by omega), pk_mul, nI_md (by omega) (by omega) (by omega)]
    generalize hb0 : A 42 s = b at o1 o2 hb b46 b68
    have h1 : RM b0 J (sI σ (b0 + 68) b (nI (A 68 b + 1))) (up2 A 68 b (A 68 b + 1)) N := RM_fix h rfl (by decide) rfl (by show _ < 2147483648; omega)
    have f1 : FR b0 σ (sI σ (b0 + 68) b (nI (A 68 b + 1))) := FR_sI (refO_f 68 (by omega) (by omega))
    have e68 : ∀ q, up2 A 68 b (A 68 b + 1) 68 q ≤ k + 1 := fun q => by
      unfold up2
      rw [if_pos rfl]
      split
      · omega
      · have := h68 q; omega
    have sl1 : ∀ i, i < n → slOk (up2 A 68 b (A 68 b + 1)) (((s + 1) % 256 + i) % 256) := fun i hi => by
      have := hsl (i + 1) (by omega)
      rw [show ((s + 1) % 256 + i) % 256 = (s + (i + 1)) % 256 by omega]
      exact this
    refine wp_from (FR_good b0) f1 ?_
    by_cases e : A 68 b + 1 = A 46 b
    · rw [if_pos e, if_pos e]
      refine wp_bind (FR_good b0) (keep_wp h1 hs (show slOk (up2 A 68 b (A 68 b + 1)) s from by unfold slOk; rw [up2_o (by decide), up2_o (by decide), up2_o (by decide), up2_o (by decide), hb0]; exact ⟨o1, o2⟩) h67) fun _ ρ h2 => ?_
      refine ih ((s + 1) % 256) (k + 1) f ρ _ h2 (by omega) (by rw [kpA_35]; exact h16) (by omega) (by omega) (by rw [kpA_35, kpA_35]; exact h67) (fun i hi => ?_) (fun q => by rw [kpA_o _ _ _ (by decide) (by decide) (by decide)]; exact e68 q)
      have := sl1 i hi
      unfold slOk at this ⊢
      rw [kpA_35, kpA_35, kpA_o _ _ _ (by decide) (by decide) (by decide), kpA_o _ _ _ (by decide) (by decide) (by decide)]
      exact this
    · rw [if_neg e, if_neg e]
      exact ih ((s + 1) % 256) (k + 1) f _ _ h1 (by omega) h16 (by omega) (by omega) h67 sl1 e68
theorem kc7 (hu : 10000 ≤ fu) : ∀ m k f σ A, RM b0 J σ A N → dsk A K → k + m = 6200 → m < f → (∀ b, b < k → A 68 b = 0) → (∀ b, 6200 ≤ b → A 68 b = 0) → wp (FR b0) σ (L_X12_keepChosen_7 b0 fu f (b0 + 35) (nI (A 35 15)) (nI k) σ) (fun _ τ => RM b0 J τ (fl 46 0 0 6200 (up2 (kcL (A 35 16) (A 35 15) (fl 68 0 k m A)) 35 16 0)) N) := by
  intro m
  induction m with
  | zero =>
    intro k f σ A h hd hk hf hz hz2
    obtain ⟨f, rfl⟩ : ∃ q, f = q + 1 := ⟨f - 1, by omega⟩
    have L := h.ra.lay
    obtain ⟨d1, d2, d3, d4, d5, d6, d7⟩ := hd
    unfold L_X12_keepChosen_7
    rw [ltb_def, ckR_35 L, osm_p (rfR_35_54 L), ckR_68 L, if_l (by omega) (by omega), if_pos (show 6200 ≤ k by omega)]
    refine kc31 hu d4 (A 35 16) (A 35 15) 0 fu σ A h (by omega) rfl d3 (by omega) ⟨d1, d2⟩ d7 (fun b => ?_)
    by_cases q : b < k
    · rw [hz b q]; exact Nat.le_refl _
    · rw [hz2 b (by omega)]; exact Nat.le_refl _
  | succ m ih =>
    intro k f σ A h hd hk hf hz hz2
    obtain ⟨f, rfl⟩ : ∃ q, f = q + 1 := ⟨f - 1, by omega⟩
    have L := h.ra.lay
    unfold L_X12_keepChosen_7
    rw [ltb_def, ckR_35 L, osm_p (rfR_35_54 L), ckR_68 L, if_l (by omega) (by omega), if_neg (show ¬ 6200 ≤ k by omega), osm_p (rfR_35_54 L), ckR_68 L, ckI_n (by omega) (by omega), ltb_def, ofi, nI_cl (by omega)]
    have h1 : RM b0 J (sI σ (b0 + 68) k 0) (up2 A 68 k 0) N := RM_fix (x := 0) h (o := 68) rfl (by decide) rfl (by decide)
    have key := ih (k + 1) f _ _ h1 hd (by omega) (by omega) (fun b hb => by
      unfold up2
      rw [if_pos rfl]
      split
      · rfl
      · exact hz b (by omega)) (fun b hb => by
      unfold up2
      rw [if_pos rfl, if_neg (by omega)]
      exact hz2 b hb)
    have e1 : fl 68 0 (k + 1) m (up2 A 68 k 0) = fl 68 0 k (m + 1) A := rfl
    have e2 : up2 A 68 k 0 35 16 = A 35 16 := rfl
    have e3 : up2 A 68 k 0 35 15 = A 35 15 := rfl
    rw [e1, e2, e3] at key
    exact wp_to (FR_good b0) key (FR_sI (refO_f 68 (by omega) (by omega)))
theorem keepChosen_wp (h : RM b0 J σ A N) (hd : dsk A K) (hz : ∀ b, 6200 ≤ b → A 68 b = 0) (hu : 10000 ≤ fu) : wp (FR b0) σ (m_X12_keepChosen b0 fu (b0 + 35) σ) (fun _ τ => RM b0 J τ (kcA A) N) := by
  have L := h.ra.lay
  refine wp_grw (FR_good b0) ?_
  rw [ckR_35 L, rf_15 h.ra, ltb_def]
  exact kc7 hu 6200 0 fu σ A h hd (by omega) (by omega) (fun b hb => by omega) hz
theorem isWhole_loop (h : RM b0 J σ A N) {k : Nat} (hk : k < J.2.1) (h6 : 1 ≤ A 35 6 ∧ A 35 6 ≤ 4096) (hb : J.1 38 k < 1000000) (hsz : J.1 39 k < 1000000) : ∀ m i f, i + m = J.1 39 k → m < f → L_X12_isWhole_21 b0 fu f (b0 + 35) (nI k) (nI i) σ = some (nI (if sr (fun i => !(A 39 (whB A J k i) == 2 && A 40 (whB A J k i) == J.1 37 k)) i m = J.1 39 k then 1 else 0), σ) := by
  have L := h.ra.lay
  obtain ⟨a9, n9, p1, p2, p3, p4, p5, p6, p7⟩ := h.dy (f := 39) (k := k) (by omega) (by omega) hk
  obtain ⟨a8, n8, q1, q2, q3, q4, q5, q6, q7⟩ := h.dy (f := 38) (k := k) (by omega) (by omega) hk
  obtain ⟨a7, n7, r1, r2, r3, r4, r5, r6, r7⟩ := h.dy (f := 37) (k := k) (by omega) (by omega) hk
  have b6 := bd_35 h.ra 6
  have nb := (h.nr).2.2
  have nz : ¬ nI (A 35 6) = 0 := nI_ne0 (by omega) b6
  intro m
  induction m with
  | zero =>
    intro i f hi hf
    obtain ⟨f, rfl⟩ : ∃ q, f = q + 1 := ⟨f - 1, by omega⟩
    unfold L_X12_isWhole_21
    rw [ltb_def, ckR_35 L, osm_p p1, ckR_p p2 p3, ckI_n p4 p5, nI_cl (by omega), p6, if_l (by omega) (by omega), if_pos (by omega), if_pos (by unfold sr; omega)]
    rfl
  | succ m ih =>
    intro i f hi hf
    obtain ⟨f, rfl⟩ : ∃ q, f = q + 1 := ⟨f - 1, by omega⟩
    have ml := Nat.mod_lt (J.1 38 k + i) (show 0 < A 35 6 by omega)
    have hw : whB A J k i < 6200 := by unfold whB; omega
    have b39 := bd_39 h.ra (whB A J k i)
    have b40 := bd_40 h.ra (whB A J k i)
    unfold L_X12_isWhole_21 J_X12_isWhole_76
    simp only [ltb_def, ofi]
    rw [ckR_35 L, osm_p p1, ckR_p p2 p3, ckI_n p4 p5, nI_cl (by omega), p6, if_l (by omega) (by omega), if_neg (show ¬ J.1 39 k ≤ i by omega), osm_p q1, ckR_p q2 q3, ckI_n q4 q5, q6, rf_6 h.ra, ckD_p nz, nI_add, nI_dv (by omega) (by omega) b6, pk_mul, nI_md (by omega) (by omega) b6, show (34 : Int32) + nI ((J.1 38 k + i) % A 35 6) = nI (whB A J k i) from nI_add 34 _, osm_p (rfR_35_8 L), ckR_39 L, ckI_n hw (by omega), nI_cl (by omega), rd_39 h.ra, osm_p (rfR_35_9 L), ckR_40 L, ckI_n hw (by omega), osm_p r1, ckR_p r2 r3, ckI_n r4 r5, rd_40 h.ra, r6, if_e b40 r7, ih (i + 1) f (by omega) (by omega)]
    show (if nI (A 39 (whB A J k i)) = nI 2 then _ else _) = _
    rw [if_e b39 (by omega)]
    by_cases e1 : A 39 (whB A J k i) = 2
    · rw [if_pos e1]
      by_cases e2 : A 40 (whB A J k i) = J.1 37 k
      · rw [if_pos e2]
        simp [sr, e1, e2]
      · rw [if_neg e2]
        have : sr (fun i => !(A 39 (whB A J k i) == 2 && A 40 (whB A J k i) == J.1 37 k)) i (m + 1) = i := by simp [sr, e2]
        rw [this, if_neg (by omega)]
        rfl
    · rw [if_neg e1]
      have : sr (fun i => !(A 39 (whB A J k i) == 2 && A 40 (whB A J k i) == J.1 37 k)) i (m + 1) = i := by simp [sr, e1]
      rw [this, if_neg (by omega)]
      rfl
theorem isWhole_eq (h : RM b0 J σ A N) {k : Nat} (h6 : 1 ≤ A 35 6 ∧ A 35 6 ≤ 4096) (hb : ∀ k, k < J.2.1 → J.1 38 k < 1000000 ∧ J.1 39 k < 1000000) (hx : A 35 35 + k < 1000000) (hu : 1200000 ≤ fu) : m_X12_isWhole b0 fu (b0 + 35) (nI (A 35 35 + k + 1)) σ = some (nI (b2n (whJ A J k)), σ) := by
  have L := h.ra.lay
  have nb := (h.nr).2.2
  have e1 : nI (A 35 35 + k + 1) - nI (A 35 35) - 1 = nI k := by
    rw [nI_sb (by omega), show nI (A 35 35 + k + 1 - A 35 35) - 1 = nI (A 35 35 + k + 1 - A 35 35 - 1) from nI_sb (b := 1) (by omega)]
    congr 1; omega
  unfold m_X12_isWhole
  rw [ckR_35 L, rf_35 h.ra, e1, ltb_def, (h.nr).1, if_t (by omega) (by omega)]
  by_cases e : k < J.2.1
  · rw [if_pos e]
    show grw σ (L_X12_isWhole_21 b0 fu fu (b0 + 35) (nI k) (nI 0) σ) = _
    rw [isWhole_loop h e h6 (hb k e).1 (hb k e).2 (J.1 39 k) 0 fu (by omega) (by have := (hb k e).2; omega), grw_same]
    congr 3
    unfold whJ b2n
    by_cases w : sr (fun i => !(A 39 (whB A J k i) == 2 && A 40 (whB A J k i) == J.1 37 k)) 0 (J.1 39 k) = J.1 39 k
    · rw [if_pos w, if_pos (decide_eq_true ⟨e, w⟩)]
    · rw [if_neg w, if_neg (by rw [decide_eq_false (fun q => w q.2)]; decide)]
  · rw [if_neg e]
    have : whJ A J k = false := decide_eq_false (fun q => e q.1)
    rw [this]
    exact grw_same
end RV
