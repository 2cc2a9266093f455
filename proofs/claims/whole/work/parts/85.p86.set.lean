/-! ===== PURE: the class's Disk: settle ===== -/
section DR1
variable {b0 fu : Nat} {σ τ : tM} {A B : tS} {C C' : tS} {D D' D'' : tD} {bi sp : Nat → Nat} {K : Nat}
/-- one step of keepChosen -/
def kc1 (A : tS) (s : Nat) : tS := if A 68 (A 42 s) + 1 = A 46 (A 42 s) then kpA (up2 A 68 (A 42 s) (A 68 (A 42 s) + 1)) s else up2 A 68 (A 42 s) (A 68 (A 42 s) + 1)
theorem kcL_s (m s : Nat) (A : tS) : kcL (m + 1) s A = kcL m ((s + 1) % 256) (kc1 A s) := rfl
theorem kc1_o {s o : Nat} (h1 : o ≠ 39) (h2 : o ≠ 40) (h3 : o ≠ 41) (h4 : o ≠ 68) : kc1 A s o = A o := by
  unfold kc1
  split
  · rw [kp_o h1 h2 h3, up2_rown h4]
  · exact up2_rown h4
theorem kc1_68 {s b : Nat} : kc1 A s 68 b = if b = A 42 s then A 68 b + 1 else A 68 b := by
  unfold kc1
  have key : up2 A 68 (A 42 s) (A 68 (A 42 s) + 1) 68 b = if b = A 42 s then A 68 b + 1 else A 68 b := by
    by_cases c : b = A 42 s
    · rw [if_pos c, c, up2_s]
    · rw [if_neg c, up2_j c]
  split
  · rw [kp_o (by decide) (by decide) (by decide)]
    exact key
  · exact key
theorem kcL_o {o : Nat} (h1 : o ≠ 39) (h2 : o ≠ 40) (h3 : o ≠ 41) (h4 : o ≠ 68) : ∀ m s (A : tS), kcL m s A o = A o
  | 0, _, _ => rfl
  | m + 1, s, A => by rw [kcL_s, kcL_o h1 h2 h3 h4 m, kc1_o h1 h2 h3 h4]
theorem kcL_68 : ∀ m s (A : tS) (b : Nat), s < 256 → kcL m s A 68 b = A 68 b + cn (fun i => A 42 ((s + i) % 256) == b) 0 m
  | 0, _, _, _, _ => rfl
  | m + 1, s, A, b, hs => by
    rw [kcL_s, kcL_68 m _ _ b (Nat.mod_lt _ (by omega)), kc1_68, kc1_o (by decide) (by decide) (by decide) (by decide)]
    show _ = A 68 b + ((if (A 42 ((s + 0) % 256) == b) = true then 1 else 0) + cn (fun i => A 42 ((s + i) % 256) == b) (0 + 1) m)
    rw [cn_shift, show (s + 0) % 256 = s from Nat.mod_eq_of_lt hs]
    have e : cn (fun i => A 42 (((s + 1) % 256 + i) % 256) == b) 0 m = cn (fun i => A 42 ((s + (i + 1)) % 256) == b) 0 m := by
      refine cn_congr _ _ (fun i _ _ => ?_)
      rw [show ((s + 1) % 256 + i) % 256 = (s + (i + 1)) % 256 by omega]
    rw [e]
    by_cases c : b = A 42 s
    · rw [if_pos c, if_pos (by simp [c])]
      omega
    · rw [if_neg c, if_neg (by simp; exact fun q => c q.symm)]
      omega
theorem set2 {ol hl : Nat} (hol : ol < 256) (hhl : hl ≤ 256) (hu : 3000 ≤ fu) : ∀ m k f σ C D A, CM b0 σ C D → C 1 9 = ol → C 1 10 = hl → k + m = hl → (∀ i, k ≤ i → i < hl → SL bi sp C D A ((ol + i) % 256) ∧ A 42 ((ol + i) % 256) < 6130 ∧ (A 43 ((ol + i) % 256) = 3 → 34 + A 35 6 ≤ A 42 ((ol + i) % 256))) → (∀ b, b < 6130 → KB bi sp C D A b) → (∀ b, b < 6130 → C 4 b ≠ 0 → ∃ i, k ≤ i ∧ i < hl ∧ A 42 ((ol + i) % 256) = b) → (∀ b, b < 6130 → C 5 b = A 46 b - A 68 b) → m < f →
    wp (FC b0) σ (L_X0_settle_2 b0 fu f (b0 + 1) (nI k) σ) (fun _ τ => ∃ C' D', CM b0 τ C' D' ∧ (C' 1 10 = 0 ∧ C' 1 14 = 1 ∧ ∀ q, q ≠ 10 → q ≠ 14 → C' 1 q = C 1 q) ∧ (∀ b, b < 6130 → KB bi sp C' D' (kcL m ((ol + k) % 256) A) b) ∧ (∀ b, b < 6130 → C' 4 b = 0) ∧ (∀ b, b < 6130 → C' 5 b = A 46 b - kcL m ((ol + k) % 256) A 68 b) ∧ cO C C' ∧ JP D D' ∧ EP D D' 0 0) := by
  intro m
  induction m with
  | zero =>
    intro k f σ C D A h h9 h10 hk hs hK h4 h5 hf
    obtain ⟨f, rfl⟩ : ∃ q, f = q + 1 := ⟨f - 1, by omega⟩
    unfold L_X0_settle_2
    rw [ltb_def, ckC_1 h.lay, cf_1_10 h.ca, h10, if_l (by omega) (by omega), if_pos (by omega)]
    have k1 := CM_fix (o := 1) (j := 10) (x := 0) (v := 0) h rfl rfl (by decide)
    have k2 := CM_fix (o := 1) (j := 14) (x := 1) (v := 1) k1 rfl rfl (by decide)
    refine wp_ret (FC_2 (FC_sI h.rf (by omega)) (FC_sI k1.rf (by omega))) ⟨_, D, k2, ⟨?_, ?_, fun q e1 e2 => ?_⟩, fun b hb => ?_, fun b hb => ?_, fun b hb => ?_, cO_up (by omega) (cO_up (by omega) (cO_r C)), JP_r D, EP_r D⟩
    · rw [up2_j (by decide), up2_s]
    · rw [up2_s]
    · rw [up2_j e2, up2_j e1]
    · exact KB_cong (hK b hb) (by rw [up2_rown (by decide), up2_rown (by decide)]) rfl rfl rfl rfl
    · rw [up2_o (by decide), up2_o (by decide)]
      refine Classical.byContradiction (fun q => ?_)
      obtain ⟨i, i1, i2, -⟩ := h4 b hb q
      omega
    · rw [up2_o (by decide), up2_o (by decide)]
      exact h5 b hb
  | succ m ih =>
    intro k f σ C D A h h9 h10 hk hs hK h4 h5 hf
    obtain ⟨f, rfl⟩ : ∃ q, f = q + 1 := ⟨f - 1, by omega⟩
    have L := h.lay
    have e1 : nI ol + nI k - (nI ol + nI k) / (256 : Int32) * (256 : Int32) = nI ((ol + k) % 256) := by
      rw [nI_add]
      exact pk_rem (d := 256) (by omega) (by omega) (by omega)
    have m1 : (ol + k) % 256 < 256 := Nat.mod_lt _ (by omega)
    obtain ⟨sl, hb, ho⟩ := hs k (Nat.le_refl _) (by omega)
    have nxt : (((ol + k) % 256) + 1) % 256 = (ol + (k + 1)) % 256 := by omega
    have es : kcL (m + 1) ((ol + k) % 256) A = kcL m ((ol + (k + 1)) % 256) (kc1 A ((ol + k) % 256)) := by rw [kcL_s, nxt]
    have ds : ∀ i, k + 1 ≤ i → i < hl → (ol + i) % 256 ≠ (ol + k) % 256 := fun i i1 i2 => by omega
    unfold L_X0_settle_2 J_X0_settle_68
    simp only [ckR_sI, rd_AI, ltb_def]
    rw [ckC_1 L, cf_1_10 h.ca, cf_1_9 h.ca, h10, h9, if_l (by omega) (by omega), if_neg (by omega), e1, osm_p (rfC_1_4 L), ckC_6 L, ckI_n m1 (by omega), nI_cl (by omega), cd_6 h.ca, sl.1, osm_p (rfC_1_2 L), ckC_4 L, ckI_n hb (by omega), osm_p (rfC_1_3 L), ckC_5 L, ckI_n hb (by omega), nI_cl (by omega), rd_IIa (show b0 + 5 ≠ b0 + 4 by omega), cd_5 h.ca, ofi]
    rw [es]
    generalize hS : (ol + k) % 256 = s at *
    have h5b := h5 _ hb
    have b5 := cb_5 h.ca (A 42 s)
    have k1 := CM_fix (o := 4) (j := A 42 s) (x := 0) (v := 0) h rfl rfl (by decide)
    have c4 : ∀ X : tS, (∀ b, b < 6130 → X 4 b = if b = A 42 s then 0 else C 4 b) → ∀ b, b < 6130 → X 4 b ≠ 0 → ∃ i, k + 1 ≤ i ∧ i < hl ∧ kc1 A s 42 ((ol + i) % 256) = b := by
      intro X hX b hb2 q
      rw [hX b hb2] at q
      by_cases c : b = A 42 s
      · rw [if_pos c] at q
        exact absurd rfl q
      · rw [if_neg c] at q
        obtain ⟨i, i1, i2, i3⟩ := h4 b hb2 q
        refine ⟨i, ?_, i2, by rw [kc1_o (by decide) (by decide) (by decide) (by decide)]; exact i3⟩
        refine Classical.byContradiction (fun r => ?_)
        have : i = k := by omega
        subst this
        rw [hS] at i3
        exact c i3.symm
    have go : ∀ (ρ : tM) (X : tS) (D1 : tD), CM b0 ρ X D1 → (∀ q, X 1 q = C 1 q) → (∀ i, k + 1 ≤ i → i < hl → SL bi sp X D1 (kc1 A s) ((ol + i) % 256)) → (∀ b, b < 6130 → KB bi sp X D1 (kc1 A s) b) → (∀ b, b < 6130 → X 4 b = if b = A 42 s then 0 else C 4 b) → (∀ b, b < 6130 → X 5 b = A 46 b - kc1 A s 68 b) → cO C X → JP D D1 → EP D D1 0 0 →
        wp (FC b0) ρ (L_X0_settle_2 b0 fu f (b0 + 1) (nI (k + 1)) ρ) (fun _ τ => ∃ C' D', CM b0 τ C' D' ∧ (C' 1 10 = 0 ∧ C' 1 14 = 1 ∧ ∀ q, q ≠ 10 → q ≠ 14 → C' 1 q = C 1 q) ∧ (∀ b, b < 6130 → KB bi sp C' D' (kcL m ((ol + (k + 1)) % 256) (kc1 A s)) b) ∧ (∀ b, b < 6130 → C' 4 b = 0) ∧ (∀ b, b < 6130 → C' 5 b = A 46 b - kcL m ((ol + (k + 1)) % 256) (kc1 A s) 68 b) ∧ cO C C' ∧ JP D D' ∧ EP D D' 0 0) := by
      intro ρ X D1 q x1 xs xk x4 x5 xc xj xe
      have a42 : kc1 A s 42 = A 42 := kc1_o (by decide) (by decide) (by decide) (by decide)
      have a43 : kc1 A s 43 = A 43 := kc1_o (by decide) (by decide) (by decide) (by decide)
      have a46 : kc1 A s 46 = A 46 := kc1_o (by decide) (by decide) (by decide) (by decide)
      have a35 : kc1 A s 35 = A 35 := kc1_o (by decide) (by decide) (by decide) (by decide)
      refine wp_mono (ih (k + 1) f ρ X D1 (kc1 A s) q (by rw [x1]; exact h9) (by rw [x1]; exact h10) (by omega) (fun i i1 i2 => ⟨xs i i1 i2, by rw [a42]; exact (hs i (by omega) i2).2.1, by rw [a42, a43, a35]; exact (hs i (by omega) i2).2.2⟩) xk (c4 X x4) (fun b hb2 => by rw [a46]; exact x5 b hb2) (by omega)) ?_
      rintro _ ρ2 _ ⟨C2, D2, p1, ⟨p2, p3, p4⟩, p5, p6, p7, p8, p9, p10⟩
      refine ⟨C2, D2, p1, ⟨p2, p3, fun q e1 e2 => (p4 q e1 e2).trans (x1 q)⟩, p5, p6, fun b hb2 => ?_, cO_t xc p8, JP_t xj p9, EP_t0 xe p10⟩
      rw [p7 b hb2, a46]
    show wp (FC b0) σ (if nI (C 5 (A 42 s)) ≤ nI 0 then _ else _) _
    rw [if_l (by omega) (by omega)]
    have u4 : ∀ b, up2 C 4 (A 42 s) 0 4 b = if b = A 42 s then 0 else C 4 b := fun b => by
      by_cases c : b = A 42 s
      · rw [if_pos c, c, up2_s]
      · rw [if_neg c, up2_j c]
    by_cases c0 : C 5 (A 42 s) ≤ 0
    · rw [if_pos c0]
      have ek : kc1 A s = up2 A 68 (A 42 s) (A 68 (A 42 s) + 1) := if_neg (by omega)
      have sx : ∀ o, o ≠ 68 → kc1 A s o = A o := fun o ho => by rw [ek, up2_rown ho]
      refine wp_from (FC_good b0) (FC_sI (o := 4) (j := A 42 s) (v := 0) h.rf (by omega)) (go _ _ D k1 (fun q => by rw [up2_o (by decide)]) (fun i i1 i2 => ?_) (fun b hb2 => ?_) (fun b _ => u4 b) (fun b hb2 => ?_) (cO_up (by omega) (cO_r C)) (JP_r D) (EP_r D))
      · exact SL_cong (hs i (by omega) i2).1 (up2_rown (by decide)) (up2_rown (by decide)) (up2_rown (by decide)) (sx 42 (by decide)) (sx 43 (by decide)) (sx 44 (by decide)) (sx 45 (by decide))
      · exact KB_cong (hK b hb2) (up2_rown (by decide)) (sx 39 (by decide)) (sx 40 (by decide)) (sx 41 (by decide)) (by rw [sx 35 (by decide)])
      · rw [up2_o (by decide), h5 b hb2, kc1_68]
        by_cases c : b = A 42 s
        · rw [if_pos c, c]
          omega
        · rw [if_neg c]
    · rw [if_neg c0]
      have L1 := k1.lay
      have k2 := CM_fix (o := 5) (j := A 42 s) (x := C 5 (A 42 s) - 1) (v := nI (C 5 (A 42 s) - 1)) k1 rfl rfl (by show _ < 2147483648; omega)
      rw [osm_p (rfC_1_3 L), ckC_5 L, ckI_n hb (by omega), ckI_n hb (by omega), rd_IIa (show b0 + 5 ≠ b0 + 4 by omega), cd_5 h.ca, show nI (C 5 (A 42 s)) - (1 : Int32) = nI (C 5 (A 42 s) - 1) from nI_sb (b := 1) (by omega), osm_p (rfC_1_3 L), ckC_5 L, ckI_n hb (by omega), rd_IIs]
      show wp (FC b0) σ (if nI (C 5 (A 42 s) - 1) = nI 0 then _ else _) _
      rw [if_e (by omega) (by omega)]
      generalize hX : up2 (up2 C 4 (A 42 s) 0) 5 (A 42 s) (C 5 (A 42 s) - 1) = X at k2
      have x4 : ∀ b, X 4 b = if b = A 42 s then 0 else C 4 b := fun b => by rw [← hX, up2_o (by decide)]; exact u4 b
      have x5 : ∀ b, b < 6130 → X 5 b = A 46 b - kc1 A s 68 b := fun b hb2 => by
        rw [kc1_68, ← hX]
        by_cases c : b = A 42 s
        · rw [if_pos c, c, up2_s]
          omega
        · rw [if_neg c, up2_j c, up2_o (by decide)]
          exact h5 b hb2
      have xo : ∀ p, p ≠ 4 → p ≠ 5 → X p = C p := fun p e1 e2 => by rw [← hX, up2_rown e2, up2_rown e1]
      have xc : cO C X := by rw [← hX]; exact cO_up (by omega) (cO_up (by omega) (cO_r C))
      have fc : FC b0 σ (sI (sI σ (b0 + 4) (A 42 s) 0) (b0 + 5) (A 42 s) (nI (C 5 (A 42 s) - 1))) := FC_2 (FC_sI h.rf (by omega)) (FC_sI k1.rf (by omega))
      by_cases c1 : C 5 (A 42 s) - 1 = 0
      · rw [if_pos c1]
        have ek : kc1 A s = kpA (up2 A 68 (A 42 s) (A 68 (A 42 s) + 1)) s := if_pos (by omega)
        have sx : ∀ o, o ≠ 68 → up2 A 68 (A 42 s) (A 68 (A 42 s) + 1) o = A o := fun o ho => up2_rown ho
        refine wp_from (FC_good b0) fc (wp_bind (FC_good b0) (keep_c (fu := fu) (bi := bi) (sp := sp) (A := up2 A 68 (A 42 s) (A 68 (A 42 s) + 1)) k2 m1 (by rw [sx 42 (by decide)]; exact hb) (by rw [sx 42 (by decide), sx 43 (by decide), sx 35 (by decide)]; exact ho) (SL_cong sl (xo 6 (by decide) (by decide)) (xo 7 (by decide) (by decide)) (xo 9 (by decide) (by decide)) (sx 42 (by decide)) (sx 43 (by decide)) (sx 44 (by decide)) (sx 45 (by decide))) (fun b hb2 => KB_cong (hK b hb2) (xo 2 (by decide) (by decide)) (sx 39 (by decide)) (sx 40 (by decide)) (sx 41 (by decide)) (by rw [sx 35 (by decide)]))) ?_)
        rintro _ ρ ⟨D2, q1, q2, q3, q4, q5⟩
        rw [sx 42 (by decide)] at q1 q4 q5
        rw [← ek] at q4 q5
        generalize hY : up2 X 2 (A 42 s) (X 7 s) = Y at q1 q4 q5
        have yo : ∀ p, p ≠ 2 → Y p = X p := fun p e => by rw [← hY, up2_rown e]
        exact go ρ Y D2 q1 (fun q => by rw [yo 1 (by decide), xo 1 (by decide) (by decide)]) (fun i i1 i2 => q5 _ (Nat.mod_lt _ (by omega)) (ds i i1 i2) (SL_cong (hs i (by omega) i2).1 (xo 6 (by decide) (by decide)) (xo 7 (by decide) (by decide)) (xo 9 (by decide) (by decide)) (sx 42 (by decide)) (sx 43 (by decide)) (sx 44 (by decide)) (sx 45 (by decide)))) q4 (fun b hb2 => by rw [yo 4 (by decide)]; exact x4 b) (fun b hb2 => by rw [yo 5 (by decide)]; exact x5 b hb2) (by rw [← hY]; exact cO_up (by omega) xc) q2 q3
      · rw [if_neg c1]
        have ek : kc1 A s = up2 A 68 (A 42 s) (A 68 (A 42 s) + 1) := if_neg (by omega)
        have sx : ∀ o, o ≠ 68 → kc1 A s o = A o := fun o ho => by rw [ek, up2_rown ho]
        refine wp_from (FC_good b0) fc (go _ X D k2 (fun q => by rw [xo 1 (by decide) (by decide)]) (fun i i1 i2 => ?_) (fun b hb2 => ?_) (fun b _ => x4 b) x5 xc (JP_r D) (EP_r D))
        · exact SL_cong (hs i (by omega) i2).1 (xo 6 (by decide) (by decide)) (xo 7 (by decide) (by decide)) (xo 9 (by decide) (by decide)) (sx 42 (by decide)) (sx 43 (by decide)) (sx 44 (by decide)) (sx 45 (by decide))
        · exact KB_cong (hK b hb2) (xo 2 (by decide) (by decide)) (sx 39 (by decide)) (sx 40 (by decide)) (sx 41 (by decide)) (by rw [sx 35 (by decide)])
/-- power comes back: what was chosen is kept -/
theorem settle_c (h : CM b0 σ C D) (hR : DR bi sp C D A) (hd : dsk A K) (hch : ∀ b, b < 6130 → A 46 b ≤ vsN A b) (hz : ∀ b, 6200 ≤ b → A 46 b = 0) (hu : 3000 ≤ fu) : wp (FC b0) σ (m_X0_settle b0 fu (b0 + 1) σ) (fun _ τ => ∃ C' D', CM b0 τ C' D' ∧ DR bi sp C' D' (rv1 A) ∧ cO C C' ∧ JP D D' ∧ EP D D' 0 0) := by
  obtain ⟨⟨r1, r2, r3, r4, r5, r6, r7⟩, rs, -, rk, rc, rch⟩ := hR
  obtain ⟨d1, d2, d3, d4, d5, d6, d7⟩ := hd
  have fo : ∀ o, o ≠ 68 → fl 68 0 0 6200 A o = A o := fun o ho => fl_row ho _ _ _
  have f68 : ∀ b, b < 6200 → fl 68 0 0 6200 A 68 b = 0 := fun b hb => by rw [fl_at, if_pos ⟨rfl, Nat.zero_le _, by omega⟩]
  have e0 : (A 35 15 + 0) % 256 = A 35 15 := Nat.mod_eq_of_lt d3
  have ms := set2 (b0 := b0) (fu := fu) (bi := bi) (sp := sp) d3 d4 hu (A 35 16) 0 fu σ C D (fl 68 0 0 6200 A) h r2 r3 (by omega) (fun i _ hi => by
    have m1 := Nat.mod_lt (A 35 15 + i) (show 0 < 256 by omega)
    refine ⟨SL_cong (rs i hi (by omega)) rfl rfl rfl (fo 42 (by decide)) (fo 43 (by decide)) (fo 44 (by decide)) (fo 45 (by decide)), ?_, ?_⟩
    · rw [fo 42 (by decide)]
      have := (d7 i hi).1
      omega
    · rw [fo 42 (by decide), fo 43 (by decide), fo 35 (by decide)]
      exact (d7 i hi).2) (fun b hb => KB_cong (rk b hb) rfl (fo 39 (by decide)) (fo 40 (by decide)) (fo 41 (by decide)) (by rw [fo 35 (by decide)])) (fun b hb q => by
    rw [rc b hb] at q
    refine Classical.byContradiction (fun r => q ?_)
    unfold vsN
    refine cn_all0 _ _ (fun x _ hx => ?_)
    cases e : (A 42 ((A 35 15 + x) % 256) == b) with
    | false => rfl
    | true => exact absurd ⟨x, Nat.zero_le _, by omega, by rw [fo 42 (by decide)]; exact beq_iff_eq.mp e⟩ r) (fun b hb => by rw [rch b hb, fo 46 (by decide), f68 b (by omega), Nat.sub_zero]) (by omega)
  refine wp_grw (FC_good b0) (wp_mono ms ?_)
  rintro _ ρ _ ⟨C', D', q1, ⟨q2, q3, q4⟩, q5, q6, q7, q8, q9, q10⟩
  refine ⟨C', D', q1, ?_, q8, q9, q10⟩
  rw [e0] at q5 q7
  generalize hB : kcL (A 35 16) (A 35 15) (fl 68 0 0 6200 A) = X at q5 q7
  have xo : ∀ o, o ≠ 39 → o ≠ 40 → o ≠ 41 → o ≠ 68 → X o = A o := fun o h1 h2 h3 h4 => by rw [← hB, kcL_o h1 h2 h3 h4, fo o h4]
  have ro : ∀ o, o ≠ 35 → o ≠ 46 → rv1 A o = X o := fun o h1 h2 => by
    unfold rv1 kcA
    rw [up2_rown h1, fl_row h2, up2_rown h1, hB]
  have r35 : ∀ j, j ≠ 16 → j ≠ 18 → rv1 A 35 j = A 35 j := fun j h1 h2 => by
    unfold rv1 kcA
    rw [up2_j h2, fl_row (by decide), up2_j h1, hB, xo 35 (by decide) (by decide) (by decide) (by decide)]
  have r16 : rv1 A 35 16 = 0 := by
    unfold rv1 kcA
    rw [up2_j (by decide), fl_row (by decide), up2_s]
  have r18 : rv1 A 35 18 = 1 := up2_s _ _ _ _
  have r46 : ∀ b, rv1 A 46 b = 0 := fun b => by
    unfold rv1 kcA
    rw [up2_o (by decide), fl_at]
    by_cases c : b < 6200
    · rw [if_pos ⟨rfl, Nat.zero_le _, by omega⟩]
    · rw [if_neg (fun r => by omega), up2_o (by decide), hB, xo 46 (by decide) (by decide) (by decide) (by decide)]
      exact hz b (by omega)
  have x68 : ∀ b, b < 6130 → X 68 b = vsN A b := fun b hb => by
    rw [← hB, kcL_68 _ _ _ _ d3, f68 b (by omega), Nat.zero_add, fo 42 (by decide)]
    rfl
  refine ⟨⟨?_, ?_, ?_, ?_, ?_, ?_, ?_⟩, fun i hi _ => ?_, fun q => by omega, fun b hb => ?_, fun b hb => ?_, fun b hb => ?_⟩
  · rw [q4 8 (by decide) (by decide), r35 6 (by decide) (by decide), r35 7 (by decide) (by decide)]; exact r1
  · rw [q4 9 (by decide) (by decide), r35 15 (by decide) (by decide)]; exact r2
  · rw [q2, r16]
  · rw [q4 11 (by decide) (by decide), r35 20 (by decide) (by decide)]; exact r4
  · rw [q4 12 (by decide) (by decide), r35 21 (by decide) (by decide)]; exact r5
  · rw [q4 13 (by decide) (by decide), r35 19 (by decide) (by decide)]; exact r6
  · rw [q3, r18]
  · rw [r16] at hi
    omega
  · exact KB_cong (q5 b hb) rfl (ro 39 (by decide) (by decide)) (ro 40 (by decide) (by decide)) (ro 41 (by decide) (by decide)) (by rw [r35 6 (by decide) (by decide), xo 35 (by decide) (by decide) (by decide) (by decide)])
  · rw [q6 b hb]
    unfold vsN
    rw [r16]
    rfl
  · rw [q7 b hb, r46, fo 46 (by decide), x68 b hb]
    have := hch b hb
    omega
end DR1
