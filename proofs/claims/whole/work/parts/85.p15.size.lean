/-! ===== PURE: the reference sets sizes, frees nodes ===== -/
theorem sb_z {x : Nat} (h : x < 256) : sb x = 0 ↔ x = 0 := by
  constructor
  · intro e
    have := sc_k8 x h
    unfold sb at e
    rw [e] at this
    have h2 : nI x = nI 0 := this.symm
    exact (nI_eq (by omega) (by omega)).mp h2
  · rintro rfl; rfl
/-- zeros from k on in a room's bytes -/
def zt (r : Nat) : Nat → Nat → (Nat → Nat → Nat) → Nat → Nat → Nat
  | _, 0, A => A
  | k, m + 1, A => zt r (k + 1) m (up2 (if A 47 (256 * r + k) = 0 then A else up2 A 48 r 1) 47 (256 * r + k) 0)
/-- blocks dropped from the i-th down, as long as they lie behind the size -/
def dd (n size : Nat) : Nat → (Nat → Nat → Nat) → Nat → Nat → Nat
  | 0, A => A
  | i + 1, A => if 256 * i < size then A else dd n size i (dropA A n i)
def zb (A : Nat → Nat → Nat) (n least : Nat) : Nat → Nat → Nat := if least < 272384 ∧ hasA A n (least / 256) ≠ 0 then zt (hasA A n (least / 256) - 1) (least % 256) (256 - least % 256) A else A
def szA (A : Nat → Nat → Nat) (n size : Nat) : Nat → Nat → Nat :=
  if nd A n 1 = size then setN A n 1 size
  else if nd A n 1 < size then zb (up2 (setN A n 1 size) 50 n 1) n (nd A n 1) else dd n size ((nd A n 1 - 1) / 256 + 1) (zb (up2 (setN A n 1 size) 50 n 1) n size)
/-- what must hold on the way down -/
def ddOk (n size : Nat) : Nat → (Nat → Nat → Nat) → Prop
  | 0, _ => True
  | i + 1, A => 256 * i < size ∨ (dropOk A n i ∧ okS A ∧ ddOk n size i (dropA A n i))
section RS
variable {b0 fu : Nat} {σ τ : tM} {A : Nat → Nat → Nat} {N : Nat} {J : tJ}
theorem nI_pred1 {x : Nat} : nI (x + 1) + Int32.ofInt (-1) = nI x := by
  have := pk_m1 x
  exact this
theorem dd_wp {n size : Nat} (hN : N + 1 < 65536) (hu : 3000 ≤ fu) (hn : n < 64) (hs : size < 272385) : ∀ i m σ A, RM b0 J σ A N → i < 1064 → i + 1 < m → ddOk n size (i + 1) A → wp (FR b0) σ (L_X12_setSize_143 b0 fu m (b0 + 35) (nI n) (nI size) (nI i) σ) (fun _ τ => RM b0 J τ (dd n size (i + 1) A) N) := by
  intro i
  induction i with
  | zero =>
    intro m σ A h hi hm ho
    obtain ⟨m, rfl⟩ : ∃ q, m = q + 2 := ⟨m - 2, by omega⟩
    have L := h.ra.lay
    unfold L_X12_setSize_143
    simp (disch := first | assumption | omega) only [lits, nI_add, pk_mul, ofi, ltb_def, cll_some, grw_same, osm_some, ckZ_0, ckZ_1, nI_cl, nI_eqP, nI_leP, nI_ltP, nI_dv, nI_md, nI_sb, ckI_n]
    unfold dd
    rcases ho with ho | ⟨ho, hS, -⟩
    · rw [if_pos (by omega), if_pos ho]
      exact wp_ret ((FR_good b0).1 _) h
    · by_cases z : 256 * 0 < size
      · rw [if_pos (by omega), if_pos z]
        exact wp_ret ((FR_good b0).1 _) h
      · rw [if_neg (by omega), if_neg (by omega), if_neg z, ckR_35 L]
        refine wp_bind (FR_good b0) (drop_wp h hN hS hu hn hi ho) fun v ρ h1 => ?_
        unfold L_X12_setSize_143
        have e : nI 0 + Int32.ofInt (-1) = -1 := rfl
        rw [e]
        have s0 : size = 0 := by omega
        subst s0
        simp only [ltb_def, J_X12_setSize_171]
        rw [if_pos (show (256 : Int32) * (-1) < nI 0 by decide)]
        exact wp_ret ((FR_good b0).1 _) h1
  | succ i ih =>
    intro m σ A h hi hm ho
    obtain ⟨m, rfl⟩ : ∃ q, m = q + 1 := ⟨m - 1, by omega⟩
    have L := h.ra.lay
    unfold L_X12_setSize_143
    simp (disch := first | assumption | omega) only [lits, nI_add, pk_mul, ofi, ltb_def, cll_some, grw_same, osm_some, ckZ_0, ckZ_1, nI_cl, nI_eqP, nI_leP, nI_ltP, nI_dv, nI_md, nI_sb, ckI_n]
    unfold dd
    by_cases z : 256 * (i + 1) < size
    · rw [if_pos (by omega), if_pos z]
      exact wp_ret ((FR_good b0).1 _) h
    · rcases ho with ho | ⟨ho, hS, hr⟩
      · omega
      · rw [if_neg (by omega), if_neg (by omega), if_neg z, ckR_35 L]
        refine wp_bind (FR_good b0) (drop_wp h hN hS hu hn hi ho) fun v ρ h1 => ?_
        rw [nI_pred1]
        exact ih m ρ _ h1 (by omega) (by omega) hr
theorem ss128 {n size was : Nat} (h : RM b0 J σ A N) (hN : N + 1 < 65536) (hu : 3000 ≤ fu) (hn : n < 64) (hs : size < 272385) (hw : was < 272385) (hne : was ≠ size) (ho : size < was → ddOk n size ((was - 1) / 256 + 1) A) : wp (FR b0) σ (J_X12_setSize_128 b0 fu (b0 + 35) (nI n) (nI size) (nI was) σ) (fun _ τ => RM b0 J τ (if was < size then A else dd n size ((was - 1) / 256 + 1) A) N) := by
  unfold J_X12_setSize_128
  rw [if_l (by omega) (by omega)]
  by_cases e : size ≤ was
  · rw [if_pos e, if_neg (by omega), ltb_def]
    have e2 : (nI was - 1) / 256 = nI ((was - 1) / 256) := by
      have h1 : nI was - 1 = nI (was - 1) := nI_sb (a := was) (b := 1) (by omega)
      rw [h1]
      exact nI_dv (a := was - 1) (d := 256) (by omega) (by omega) (by omega)
    rw [e2]
    exact dd_wp hN hu hn hs _ fu σ A h (by omega) (by omega) (ho (by omega))
  · rw [if_neg e, if_pos (by omega)]
    exact wp_ret ((FR_good b0).1 _) h
theorem ss69 {n size was r : Nat} (hN : N + 1 < 65536) (hu : 3000 ≤ fu) (hn : n < 64) (hs : size < 272385) (hw : was < 272385) (hne : was ≠ size) (hr : r < 2000) : ∀ m k f σ A, RM b0 J σ A N → k + m = 256 → m < f → (size < was → ddOk n size ((was - 1) / 256 + 1) (zt r k m A)) → wp (FR b0) σ (L_X12_setSize_69 b0 fu f (b0 + 35) (nI n) (nI size) (nI was) (nI r) (nI k) σ) (fun _ τ => RM b0 J τ (if was < size then zt r k m A else dd n size ((was - 1) / 256 + 1) (zt r k m A)) N) := by
  intro m
  induction m with
  | zero =>
    intro k f σ A h hk hf ho
    obtain ⟨f, rfl⟩ : ∃ q, f = q + 1 := ⟨f - 1, by omega⟩
    unfold L_X12_setSize_69
    simp (disch := first | assumption | omega) only [lits, nI_add, pk_mul, ofi, ltb_def, cll_some, grw_same, osm_some, ckZ_0, ckZ_1, nI_cl, nI_eqP, nI_leP, nI_ltP, nI_dv, nI_md, nI_sb, ckI_n]
    rw [if_pos (by omega)]
    exact ss128 h hN hu hn hs hw hne ho
  | succ m ih =>
    intro k f σ A h hk hf ho
    obtain ⟨f, rfl⟩ : ∃ q, f = q + 1 := ⟨f - 1, by omega⟩
    have L := h.ra.lay
    have hi : 256 * r + k < 512000 := by omega
    unfold L_X12_setSize_69
    simp (disch := first | assumption | omega) only [lits, nI_add, pk_mul, ofi, ltb_def, cll_some, grw_same, osm_some, ckZ_0, ckZ_1, nI_cl, nI_eqP, nI_leP, nI_ltP, nI_dv, nI_md, nI_sb, ckI_n, ckR_35 L, rfR_35_22 L, ckR_47 L, rfR_35_23 L, ckR_48 L, rd_47 h.ra, J_X12_setSize_107, rd_AI, rd_AL, rd_AIr, rd_ALr, rd_IL, rd_LI, rd_IA, rd_LA, rd_LIr, rd_ILr, ckR_sI, ckO_sI, ckR_sL, ckO_sL, ckR_sA, ckO_sA, ckR_sIr, ckO_sIr, ckR_sLr, ckO_sLr]
    rw [if_neg (by omega), if_neg (by omega)]
    by_cases z : A 47 (256 * r + k) = 0
    · rw [if_pos (show sb (A 47 (256 * r + k)) = nI 0 from (sb_z (bd_47 h.ra _)).mpr z)]
      unfold zt at ho ⊢
      rw [if_pos z] at ho ⊢
      exact wp_to (FR_good b0) (ih (k + 1) f _ _ (RM_fix (x := 0) h (o := 47) rfl (by decide) rfl (by decide)) (by omega) (by omega) ho) (FR_sI (refO_f 47 (by omega) (by omega)))
    · rw [if_neg (show ¬ sb (A 47 (256 * r + k)) = nI 0 from fun q => z ((sb_z (bd_47 h.ra _)).mp q))]
      unfold zt at ho ⊢
      rw [if_neg z] at ho ⊢
      exact wp_to (FR_good b0) (ih (k + 1) f _ _ (RM_fix (x := 0) (RM_fix (x := 1) h (o := 48) rfl (by decide) rfl (by decide)) (o := 47) rfl (by decide) rfl (by decide)) (by omega) (by omega) ho) ((FR_good b0).2.1 _ _ _ (FR_sI (refO_f 48 (by omega) (by omega))) (FR_sI (refO_f 47 (by omega) (by omega))))
end RS
