/-! ===== PURE: the reference's undo ===== -/
def udE (A : tS) (J : tJ) (to : Nat) : Nat := if A 35 35 < to then (J.1 38 (to - A 35 35 - 1) + J.1 39 (to - A 35 35 - 1)) % A 35 6 else A 35 46
def udC (A : tS) (J : tJ) (to : Nat) : Nat := if A 35 35 < to then J.1 40 (to - A 35 35 - 1) else 0
section UF
variable {b0 fu : Nat} {σ τ : tM} {A B U : tS} {c : Nat → Nat} {N K K' un ns nl : Nat} {J : tJ}
theorem undo_wp {to : Nat} {s : Nat → Nat} (h : RM b0 J σ A N) (h6 : 1 ≤ A 35 6 ∧ A 35 6 ≤ 4096) (h7 : A 35 7 ≤ 2000) (ht : A 35 35 ≤ to) (ht2 : to - A 35 35 ≤ J.2.1) (hx : to < 1000000) (hb : ∀ k, k < J.2.1 → J.1 38 k + J.1 39 k < 1000000) (hK : J.2.2.2 (udC A J to) s) (hN : 4000 ≤ N) (hN2 : N + 130 < 65536) (ho : mfLok 0 64 (ud4 A to (udE A J to) s)) (hu : 200000 ≤ fu) : wp (FR b0) σ (m_X12_undo b0 fu (b0 + 35) (nI to) σ) (fun _ τ => RM b0 (udJ J s) τ (udA A to (udE A J to) s) (N + 128)) := by
  have L := h.ra.lay
  have b6 := bd_35 h.ra 6
  have nz : ¬ nI (A 35 6) = 0 := nI_ne0 (by omega) b6
  have nb := (h.nr).2.2
  obtain ⟨hT, U, un, hR, hNu, hU, hm⟩ := RM_RL.mp h
  obtain ⟨k1, k2⟩ := hm _ s hK
  have lnb : un ≤ 131072 := by
    obtain ⟨-, ad, ln, hd, hl, hb⟩ := hR
    obtain ⟨-, -, -, -, w1, -⟩ := hd.1 2 rfl
    have : cntD un J.2.1 J.2.2.1 2 = un := rfl
    omega
  have enb : udE A J to < 2147483648 := by
    unfold udE
    split
    · have := Nat.mod_lt (J.1 38 (to - A 35 35 - 1) + J.1 39 (to - A 35 35 - 1)) (show 0 < A 35 6 by omega); omega
    · exact bd_35 h.ra 46
  have k74 : wp (FR b0) σ (L_X12_undo_74 b0 fu fu (b0 + 35) (nI to) (nI (udE A J to)) (nI (udC A J to)) σ) (fun _ τ => RM b0 (udJ J s) τ (udA A to (udE A J to) s) (N + 128)) := by
    generalize udE A J to = en at enb ho
    generalize udC A J to = ch at k1 k2
    obtain ⟨τ, t1, t2, t3, t4⟩ := undo74 (b0 := b0) (fu := fu) (to := to) (en := en) (ch := ch) (un - ch) fu σ A un hR hT hU (by omega) (Nat.le_refl _) (Nat.le_refl _) lnb (by omega)
    rw [t1]
    rw [k2] at t3 t4
    refine wp_from (FR_good b0) t2 ?_
    have h1 := RL_un t3 0
    have h2 : RL b0 (sI (sI τ (b0 + 35) 4 0) (b0 + 35) 35 (nI to)) (up2 (upR A 36 s) 35 35 to) J.1 U _ 0 J.2.1 J.2.2.1 := RL_fix h1 rfl rfl (by show _ < 2147483648; omega)
    unfold J_X12_undo_128
    rw [ckR_35 h2.1.lay, ltb_def]
    have h3 := RL_nl (RL_ns h2 0) 0
    have h4 := RL_fix (o := 35) (j := 46) (x := en) (v := nI en) h3 rfl rfl enb
    have h5 := RL_fix (o := 35) (j := 33) (x := en) (v := nI en) h4 rfl rfl enb
    have tb : to < 2147483648 := by omega
    have h6' := RL_fix (o := 35) (j := 28) (x := to) (v := nI to) h5 rfl rfl tb
    have h7' := RL_fix (o := 35) (j := 29) (x := to) (v := nI to) h6' rfl rfl tb
    have h8 := RL_fix (o := 35) (j := 30) (x := to) (v := nI to) h7' rfl rfl tb
    have h9 := RL_fix (o := 35) (j := 31) (x := to) (v := nI to) h8 rfl rfl tb
    have h10 := RL_fix (o := 35) (j := 32) (x := to) (v := nI to) h9 rfl rfl tb
    have f35 : ∀ (σ : tM) j v, FR b0 σ (sI σ (b0 + 35) j v) := fun σ j v => FR_sI (refO_f 35 (by omega) (by omega))
    have fr : ∀ (ρ : tM) v1 v2 v3 v4 v5 v6 v7 v8 v9 v10 v11, FR b0 ρ (sI (sI (sI (sI (sI (sI (sI (sI (sI (sI (sI ρ (b0 + 35) 4 v1) (b0 + 35) 35 v2) (b0 + 35) 36 v3) (b0 + 35) 45 v4) (b0 + 35) 46 v5) (b0 + 35) 33 v6) (b0 + 35) 28 v7) (b0 + 35) 29 v8) (b0 + 35) 30 v9) (b0 + 35) 31 v10) (b0 + 35) 32 v11) := fun ρ v1 v2 v3 v4 v5 v6 v7 v8 v9 v10 v11 => (FR_good b0).2.1 _ _ _ (f35 _ _ _) ((FR_good b0).2.1 _ _ _ (f35 _ _ _) ((FR_good b0).2.1 _ _ _ (f35 _ _ _) ((FR_good b0).2.1 _ _ _ (f35 _ _ _) ((FR_good b0).2.1 _ _ _ (f35 _ _ _) ((FR_good b0).2.1 _ _ _ (f35 _ _ _) ((FR_good b0).2.1 _ _ _ (f35 _ _ _) ((FR_good b0).2.1 _ _ _ (f35 _ _ _) ((FR_good b0).2.1 _ _ _ (f35 _ _ _) ((FR_good b0).2.1 _ _ _ (f35 _ _ _) (f35 _ _ _))))))))))
    have hM : RM b0 (udJ J s) (sI (sI (sI (sI (sI (sI (sI (sI (sI (sI (sI τ (b0 + 35) 4 0) (b0 + 35) 35 (nI to)) (b0 + 35) 36 0) (b0 + 35) 45 0) (b0 + 35) 46 (nI en)) (b0 + 35) 33 (nI en)) (b0 + 35) 28 (nI to)) (b0 + 35) 29 (nI to)) (b0 + 35) 30 (nI to)) (b0 + 35) 31 (nI to)) (b0 + 35) 32 (nI to)) (ud0 A to en s) N := by
      refine RM_RL.mpr ⟨?_, U, 0, RL_le h10 (fun f hf => ?_), ?_, fun i hi => by omega, ?_⟩
      · intro j
        have := t4 j
        exact this
      · have : cntD 0 (udJ J s).2.1 (udJ J s).2.2.1 f = 0 := by
          show cntD 0 0 0 f = 0
          unfold cntD
          split
          · rfl
          · split <;> rfl
        rw [this]
        exact Nat.zero_le _
      · have : usd (ud0 A to en s) ≤ 2000 := cn_le _ _ _
        omega
      · rintro p q ⟨rfl, rfl⟩
        exact ⟨Nat.le_refl _, rfl⟩
    refine wp_from (FR_good b0) (fr τ 0 (nI to) 0 0 (nI en) (nI en) (nI to) (nI to) (nI to) (nI to) (nI to)) ?_
    refine wp_bind (FR_good b0) (emptyGroup_wp hM (by omega)) fun _ ρ h11 => ?_
    unfold J_X12_undo_177
    have e7 : egA (ud0 A to en s) 35 7 = A 35 7 := by
      unfold egA
      rw [fl_at, if_neg (by omega), fl_at, if_neg (by omega), fl_at, if_neg (by omega)]
      rfl
    have e6 : egA (ud0 A to en s) 35 6 = A 35 6 := by
      unfold egA
      rw [fl_at, if_neg (by omega), fl_at, if_neg (by omega), fl_at, if_neg (by omega)]
      rfl
    obtain ⟨ρ2, r1, r2, r3⟩ := rz_wp (b0 := b0) (fu := fu) (by omega) (A 35 7) 0 fu ρ _ h11 (by rw [e7]; omega) (by rw [e7]; exact h7) (by omega)
    show wp (FR b0) ρ (L_X12_undo_180 b0 fu fu (b0 + 35) (nI 0) ρ) _
    rw [r1]
    refine wp_from (FR_good b0) r2 ?_
    have rzo : ∀ m k (B : tS) j, rz k m B 35 j = B 35 j := by
      intro m
      induction m with
      | zero => intro k B j; rfl
      | succ m ih => intro k B j; unfold rz; rw [ih]; rfl
    have z7 : rz 0 (A 35 7) (egA (ud0 A to en s)) 35 7 = A 35 7 := by rw [rzo, e7]
    have z6 : rz 0 (A 35 7) (egA (ud0 A to en s)) 35 6 = A 35 6 := by rw [rzo, e6]
    have key := undo214 (b0 := b0) (fu := fu) (by omega) 16 0 fu ρ2 _ r3 (by omega) (by omega) (by rw [z7]; exact h7) (by rw [z6]; omega) hN2 (by rw [z7]; exact ho)
    rw [z7] at key
    exact key
  have k47 : ∀ en, en = udE A J to → wp (FR b0) σ (J_X12_undo_47 b0 fu (b0 + 35) (nI to) (nI en) σ) (fun _ τ => RM b0 (udJ J s) τ (udA A to (udE A J to) s) (N + 128)) := by
    intro en hen
    subst hen
    unfold J_X12_undo_47 J_X12_undo_73
    rw [ckR_35 L, rf_35 h.ra, if_l (by omega) (by omega)]
    by_cases e : to ≤ A 35 35
    · rw [if_pos e]
      have : udC A J to = 0 := if_neg (by omega)
      rw [this] at k74
      exact k74
    · obtain ⟨a, n, q1, q2, q3, q4, q5, q6, q7⟩ := h.dy (f := 40) (k := to - A 35 35 - 1) (by omega) (by omega) (by omega)
      have e1 : nI to - nI (A 35 35) - 1 = nI (to - A 35 35 - 1) := by
        rw [nI_sb (by omega)]
        exact nI_sb (b := 1) (by omega)
      rw [if_neg e, osm_p q1, ckR_p q2 q3, e1, ckI_n q4 q5, nI_cl (by omega), q6]
      have : udC A J to = J.1 40 (to - A 35 35 - 1) := if_pos (by omega)
      rw [this] at k74
      exact k74
  refine wp_grw (FR_good b0) ?_
  rw [ckR_35 L, rf_35 h.ra, if_l (by omega) (by omega)]
  by_cases e : to ≤ A 35 35
  · rw [if_pos e]
    unfold J_X12_undo_43
    rw [ckR_35 L, rf_46 h.ra]
    exact k47 _ (if_neg (by omega)).symm
  · rw [if_neg e]
    obtain ⟨a, n, q1, q2, q3, q4, q5, q6, q7⟩ := h.dy (f := 38) (k := to - A 35 35 - 1) (by omega) (by omega) (by omega)
    obtain ⟨a', n', r1, r2, r3, r4, r5, r6, r7⟩ := h.dy (f := 39) (k := to - A 35 35 - 1) (by omega) (by omega) (by omega)
    have hbk := hb (to - A 35 35 - 1) (by omega)
    have e1 : nI to - nI (A 35 35) - 1 = nI (to - A 35 35 - 1) := by
      rw [nI_sb (by omega)]
      exact nI_sb (b := 1) (by omega)
    rw [osm_p q1, ckR_p q2 q3, e1, ckI_n q4 q5, osm_p r1, ckR_p r2 r3, ckI_n r4 r5, rf_6 h.ra, ckD_p nz, nI_cl (by omega), q6, r6, nI_add, nI_dv (by omega) (by omega) b6, pk_mul, nI_md (by omega) (by omega) b6]
    exact k47 _ (if_pos (by omega)).symm
end UF
