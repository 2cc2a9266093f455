/-! ===== PURE: the reference's disk ===== -/
def powA (A : Nat → Nat → Nat) : Nat → Nat → Nat := fl 46 0 0 6200 (up2 (up2 A 35 18 0) 35 19 0)
def actA (A : Nat → Nat → Nat) : Nat → Nat → Nat := up2 (if 1 < A 35 19 then up2 A 35 19 (A 35 19 - 1) else A) 35 20 (A 35 20 + 1)
def cpR (src dst : Nat → Nat) (sp dp : Nat) : Nat → Nat := fun j => if dp ≤ j ∧ j < dp + 256 then src (sp + (j - dp)) else dst j
def kpA (A : Nat → Nat → Nat) (s : Nat) : Nat → Nat → Nat :=
  if A 43 s = 3 then upR (up2 (up2 A 39 (A 42 s) (A 43 s)) 40 (A 42 s) (A 44 s)) 41 (cpR (A 45) (A 41) (256 * s) (256 * (A 42 s - 34 - A 35 6))) else up2 (up2 A 39 (A 42 s) (A 43 s)) 40 (A 42 s) (A 44 s)
def koA (A : Nat → Nat → Nat) : Nat → Nat → Nat := up2 (up2 (kpA A (A 35 15)) 35 15 ((A 35 15 + 1) % 256)) 35 16 (A 35 16 - 1)
def ve1 (A : Nat → Nat → Nat) (s b wh id : Nat) : Nat → Nat → Nat :=
  up2 (if wh = 3 then upR (up2 (up2 (up2 A 42 s b) 43 s wh) 44 s id) 45 (cpR (A 47) (A 45) (256 * (b - 34 - A 35 6)) (256 * s)) else up2 (up2 (up2 A 42 s b) 43 s wh) 44 s id) 35 16 (A 35 16 + 1)
def ve2 (A : Nat → Nat → Nat) : Nat → Nat → Nat := if A 35 16 = 256 then koA A else A
def verA (A : Nat → Nat → Nat) (b wh id : Nat) : Nat → Nat → Nat := ve1 (ve2 (actA A)) ((ve2 (actA A) 35 15 + ve2 (actA A) 35 16) % 256) b wh id
def koN : Nat → (Nat → Nat → Nat) → Nat → Nat → Nat
  | 0, A => A
  | n + 1, A => koN n (koA A)
def fluA (A : Nat → Nat → Nat) : Nat → Nat → Nat := up2 (koN (actA A 35 16) (actA A)) 35 21 (koN (actA A 35 16) (actA A) 35 21 + 1)
/-- a slot's version is of a block of the disk; of data in the room -/
def slOk (A : Nat → Nat → Nat) (s : Nat) : Prop := A 42 s < 34 + A 35 6 + A 35 7 ∧ (A 43 s = 3 → 34 + A 35 6 ≤ A 42 s)
/-- the disk's own order; K: how many acts may come -/
def dsk (A : Nat → Nat → Nat) (K : Nat) : Prop := A 35 6 ≤ 4096 ∧ A 35 7 ≤ 2000 ∧ A 35 15 < 256 ∧ A 35 16 ≤ 256 ∧ A 35 20 + K < 1000000000 ∧ A 35 21 + K < 1000000000 ∧ ∀ i, i < A 35 16 → slOk A ((A 35 15 + i) % 256)
theorem sb_sb (x : Nat) : (sb x).toInt8.toInt32 = sb x := by
  unfold sb
  rw [Int8.toInt8_toInt32]
section DK
variable {b0 fu : Nat} {σ τ : tM} {A : Nat → Nat → Nat} {N : Nat} {J : tJ}
theorem pow_loop : ∀ m k f σ A, RM b0 J σ A N → k + m = 6200 → m < f → wp (FR b0) σ (L_X12_powerOff_12 b0 fu f (b0 + 35) (nI k) σ) (fun _ τ => RM b0 J τ (fl 46 0 k m A) N) := by
  intro m
  induction m with
  | zero =>
    intro k f σ A h hk hf
    obtain ⟨f, rfl⟩ : ∃ q, f = q + 1 := ⟨f - 1, by omega⟩
    have L := h.ra.lay
    unfold L_X12_powerOff_12
    rw [ltb_def, ckR_35 L, osm_p (rfR_35_17 L), ckR_46 L, if_l (by omega) (by omega), if_pos (show 6200 ≤ k by omega)]
    exact wp_ret ((FR_good b0).1 _) h
  | succ m ih =>
    intro k f σ A h hk hf
    obtain ⟨f, rfl⟩ : ∃ q, f = q + 1 := ⟨f - 1, by omega⟩
    have L := h.ra.lay
    unfold L_X12_powerOff_12
    rw [ltb_def, ckR_35 L, osm_p (rfR_35_17 L), ckR_46 L, if_l (by omega) (by omega), if_neg (show ¬ 6200 ≤ k by omega), osm_p (rfR_35_17 L), ckR_46 L, ckI_n (by omega) (by omega), ltb_def, ofi, nI_cl (by omega)]
    exact wp_to (FR_good b0) (ih (k + 1) f _ _ (RM_fix (x := 0) h (o := 46) rfl (by decide) rfl (by decide)) (by omega) (by omega)) (FR_sI (refO_f 46 (by omega) (by omega)))
theorem powerOff_wp (h : RM b0 J σ A N) (hu : 10000 ≤ fu) : wp (FR b0) σ (m_X12_powerOff b0 fu (b0 + 35) σ) (fun _ τ => RM b0 J τ (powA A) N) := by
  have L := h.ra.lay
  refine wp_grw (FR_good b0) ?_
  rw [ckR_35 L]
  have h1 : RM b0 J (sI σ (b0 + 35) 18 0) (up2 A 35 18 0) N := RM_fix (x := 0) h rfl (by decide) rfl (by decide)
  have h2 : RM b0 J (sI (sI σ (b0 + 35) 18 0) (b0 + 35) 19 (-1)) (up2 (up2 A 35 18 0) 35 19 0) N := RM_fix (x := 0) h1 rfl (by decide) rfl (by decide)
  exact wp_to (FR_good b0) (pow_loop 6200 0 fu _ _ h2 (by omega) (by omega)) ((FR_good b0).2.1 _ _ _ (FR_sI (refO_f 35 (by omega) (by omega))) (FR_sI (refO_f 35 (by omega) (by omega))))
theorem cut_c {x : Nat} (h : x < 2147483649) : (nI x - 1 = 0 ↔ x = 1) ∧ (nI x - 1 ≤ 0 ↔ x ≤ 1) := by
  cases x with
  | zero => decide
  | succ y =>
    rw [show nI (y + 1) - 1 = nI y from nI_sb (a := y + 1) (b := 1) (by omega)]
    constructor
    · rw [show (0 : Int32) = nI 0 from rfl, nI_eq (by omega) (by omega)]; omega
    · rw [show (0 : Int32) = nI 0 from rfl, nI_leI (by omega) (by omega)]; omega
theorem act_wp (h : RM b0 J σ A N) (hu : 10000 ≤ fu) (ha : A 35 20 < 1000000000) : wp (FR b0) σ (m_X12_act b0 fu (b0 + 35) σ) (fun v τ => (A 35 19 = 1 ∧ v = .inr () ∧ RM b0 J τ (powA A) N) ∨ (A 35 19 ≠ 1 ∧ v = .inl () ∧ RM b0 J τ (actA A) N)) := by
  have L := h.ra.lay
  have bc := bd_19 h.ra
  obtain ⟨c1, c2⟩ := cut_c bc
  refine wp_grw (FR_good b0) ?_
  rw [ckR_35 L, rf_19 h.ra]
  by_cases e : A 35 19 = 1
  · rw [if_pos (c1.mpr e)]
    exact wp_bind (FR_good b0) (powerOff_wp h hu) fun _ ρ h1 => wp_ret ((FR_good b0).1 _) (Or.inl ⟨e, rfl, h1⟩)
  · rw [if_neg (fun q => e (c1.mp q))]
    unfold J_X12_act_32
    by_cases e2 : A 35 19 ≤ 1
    · rw [if_pos (c2.mpr e2), ckR_35 L, rf_20 h.ra, nI_1]
      refine wp_ret (FR_sI (refO_f 35 (by omega) (by omega))) (Or.inr ⟨e, rfl, ?_⟩)
      unfold actA
      rw [if_neg (show ¬ 1 < A 35 19 by omega)]
      exact RM_fix h rfl (by decide) rfl (by show _ < 2147483648; omega)
    · rw [if_neg (fun q => e2 (c2.mp q))]
      have e3 : nI (A 35 19) - 1 - 1 = nI (A 35 19 - 1) - 1 := by rw [show nI (A 35 19) - 1 = nI (A 35 19 - 1) from nI_sb (b := 1) (by omega)]
      rw [e3]
      have h1 : RM b0 J (sI σ (b0 + 35) 19 (nI (A 35 19 - 1) - 1)) (up2 A 35 19 (A 35 19 - 1)) N := RM_fix h rfl (by decide) rfl (by show _ < 2147483648; omega)
      rw [ckR_35 h1.ra.lay, rf_20 h1.ra, nI_1]
      refine wp_ret ((FR_good b0).2.1 _ _ _ (FR_sI (refO_f 35 (by omega) (by omega))) (FR_sI (refO_f 35 (by omega) (by omega)))) (Or.inr ⟨e, rfl, ?_⟩)
      unfold actA
      rw [if_pos (show 1 < A 35 19 by omega)]
      exact RM_fix (x := A 35 20 + 1) h1 rfl (by decide) rfl (by show _ < 2147483648; omega)
theorem keep_wp {s : Nat} (h : RM b0 J σ A N) (hs : s < 256) (ho : slOk A s) (hl : A 35 6 ≤ 4096 ∧ A 35 7 ≤ 2000) : wp (FR b0) σ (m_X12_keep b0 fu (b0 + 35) (nI s) σ) (fun _ τ => RM b0 J τ (kpA A s) N) := by
  have L := h.ra.lay
  obtain ⟨o1, o2⟩ := ho
  have hb : A 42 s < 6200 := by omega
  have b43 := bd_43 h.ra s
  have b44 := bd_44 h.ra s
  refine wp_grw (FR_good b0) ?_
  simp only [rd_AI, rd_AL, rd_AIr, rd_ALr, rd_IL, rd_LI, rd_IA, rd_LA, rd_LIr, rd_ILr, ckR_sI, ckO_sI, ckR_sL, ckO_sL, ckR_sA, ckO_sA, ckR_sIr, ckO_sIr, ckR_sLr, ckO_sLr, ltb_def, J_X12_keep_73]
  rw [ckR_35 L, osm_p (rfR_35_11 L), ckR_42 L, ckI_n hs (by omega), nI_cl (by omega), rd_42 h.ra, osm_p (rfR_35_8 L), osm_p (rfR_35_12 L), ckR_43 L, ckI_n hs (by omega), ckR_39 L, ckI_n hb (by omega), osm_p (rfR_35_9 L), osm_p (rfR_35_13 L), ckR_44 L, ckI_n hs (by omega), ckR_40 L, ckI_n hb (by omega), osm_p (rfR_35_12 L), ckR_43 L, ckI_n hs (by omega), nI_cl (by omega), rd_43 h.ra]
  rw [rd_IIa (show b0 + 44 ≠ b0 + 39 by omega), rd_44 h.ra, rd_IIa (show b0 + 43 ≠ b0 + 40 by omega), rd_IIa (show b0 + 43 ≠ b0 + 39 by omega), rd_43 h.ra]
  have h1 : RM b0 J (sI σ (b0 + 39) (A 42 s) (nI (A 43 s))) _ N := RM_fix (x := A 43 s) h (o := 39) (j := A 42 s) rfl (by decide) rfl b43
  have h2 : RM b0 J (sI (sI σ (b0 + 39) (A 42 s) (nI (A 43 s))) (b0 + 40) (A 42 s) (nI (A 44 s))) _ N := RM_fix (x := A 44 s) h1 (o := 40) (j := A 42 s) rfl (by decide) rfl b44
  have f1 : FR b0 σ (sI (sI σ (b0 + 39) (A 42 s) (nI (A 43 s))) (b0 + 40) (A 42 s) (nI (A 44 s))) := (FR_good b0).2.1 _ _ _ (FR_sI (refO_f 39 (by omega) (by omega))) (FR_sI (refO_f 40 (by omega) (by omega)))
  unfold kpA
  show wp (FR b0) σ (if nI (A 43 s) = nI 3 then _ else _) _
  rw [if_e b43 (by omega)]
  by_cases e : A 43 s = 3
  · rw [if_pos e, if_pos e, osm_p (rfR_35_14 L), osm_p (rfR_35_10 L), ckR_45 L, ckR_41 L]
    have o3 := o2 e
    have z6 : tI (sI (sI σ (b0 + 39) (A 42 s) (nI (A 43 s))) (b0 + 40) (A 42 s) (nI (A 44 s))) (b0 + 35) 6 = nI (A 35 6) := by rw [rd_IIa (by omega), rd_IIa (by omega), rf_6 h.ra]
    rw [z6]
    have e1 : (256 : Int32) * nI s = nI (256 * s) := pk_mul 256 s
    have e2 : (256 : Int32) * (nI (A 42 s) - 34 - nI (A 35 6)) = nI (256 * (A 42 s - 34 - A 35 6)) := by
      rw [show nI (A 42 s) - 34 = nI (A 42 s - 34) from nI_sb (b := 34) (by omega), nI_sb (by omega)]
      exact pk_mul 256 _
    rw [e1, e2]
    have r45 : tI (sI (sI σ (b0 + 39) (A 42 s) (nI (A 43 s))) (b0 + 40) (A 42 s) (nI (A 44 s))) (b0 + 45) = fun j => sb (A 45 j) := by
      funext j; rw [rd_IIa (by omega), rd_IIa (by omega), rd_45 h.ra]
    have r41 : tI (sI (sI σ (b0 + 39) (A 42 s) (nI (A 43 s))) (b0 + 40) (A 42 s) (nI (A 44 s))) (b0 + 41) = fun j => sb (A 41 j) := by
      funext j; rw [rd_IIa (by omega), rd_IIa (by omega), rd_41 h.ra]
    rw [r45, r41]
    have ckc : ∀ (k : Option (Unit × tM)), ckC (nI (256 * s)) (nI (256 * (A 42 s - 34 - A 35 6))) 256 65536 512000 k = k := fun k => by
      unfold ckC
      rw [nI_cl (by omega), nI_cl (by omega), show (256 : Int32).toNatClampNeg = 256 from rfl, if_pos ⟨⟨nI_pos (by omega), nI_pos (by omega), by decide⟩, by omega, by omega⟩]
    have ckf : ∀ (k : Option (Unit × tM)), ckF (fun j => sb (A 45 j)) (nI (256 * s)) 256 k = k := fun k => by
      unfold ckF
      rw [if_pos]
      intro j hj
      exact sb_sb _
    rw [ckc, ckf, nI_cl (by omega), nI_cl (by omega), show (256 : Int32).toNatClampNeg = 256 from rfl]
    refine wp_ret ((FR_good b0).2.1 _ _ _ f1 (FR_sIr (refO_f 41 (by omega) (by omega)))) ?_
    refine RM_row h2 rfl (by decide) (fun j => ?_) (fun j => ?_)
    · unfold cpR
      by_cases q : 256 * (A 42 s - 34 - A 35 6) ≤ j ∧ j < 256 * (A 42 s - 34 - A 35 6) + 256
      · rw [pk_cpy_in q.1 q.2, if_pos q]; rfl
      · rw [pk_cpy_out (by omega), if_neg q]; rfl
    · unfold cpR
      split
      · exact bd_45 h.ra _
      · exact bd_41 h.ra _
  · rw [if_neg e, if_neg e]
    exact wp_ret f1 h2
theorem keepOldest_wp (h : RM b0 J σ A N) {K : Nat} (hd : dsk A K) (h0 : 0 < A 35 16) : wp (FR b0) σ (m_X12_keepOldest b0 fu (b0 + 35) σ) (fun _ τ => RM b0 J τ (koA A) N) := by
  have L := h.ra.lay
  obtain ⟨d1, d2, d3, d4, d5, d6, d7⟩ := hd
  have ho := d7 0 h0
  rw [Nat.add_zero, show A 35 15 % 256 = A 35 15 by omega] at ho
  refine wp_grw (FR_good b0) ?_
  rw [ckR_35 L, rf_15 h.ra]
  refine wp_bind (FR_good b0) (keep_wp h d3 ho ⟨d1, d2⟩) fun _ ρ h1 => ?_
  have k35 : ∀ j, kpA A (A 35 15) 35 j = A 35 j := fun j => by
    unfold kpA
    split
    · rw [upR_o (by decide), up2_o (by decide), up2_o (by decide)]
    · rw [up2_o (by decide), up2_o (by decide)]
  rw [ckR_35 h1.ra.lay, rf_15 h1.ra, k35, nI_1, show (256 : Int32) = nI 256 from rfl, nI_dv (by omega) (by omega) (by omega), pk_mul, nI_md (by omega) (by omega) (by omega)]
  have h2 : RM b0 J (sI ρ (b0 + 35) 15 (nI ((A 35 15 + 1) % 256))) _ N := RM_fix (x := (A 35 15 + 1) % 256) h1 (o := 35) (j := 15) rfl (by decide) rfl (by show _ < 2147483648; omega)
  rw [rf_16 h2.ra, up2_j (by decide), k35, show nI (A 35 16) - 1 = nI (A 35 16 - 1) from nI_sb (b := 1) (by omega)]
  refine wp_ret ((FR_good b0).2.1 _ _ _ (FR_sI (refO_f 35 (by omega) (by omega))) (FR_sI (refO_f 35 (by omega) (by omega)))) ?_
  exact RM_fix (x := A 35 16 - 1) h2 (o := 35) (j := 16) rfl (by decide) rfl (by show _ < 2147483648; omega)
end DK
