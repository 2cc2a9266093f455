/-! ===== PURE: the class's Loader: all of it ===== -/
/-- META's fixed blocks are read up to c -/
def ldM (D : tD) (c : Nat) (C : tS) : tS := fun p q => if p = 11 ∧ 32 ≤ q ∧ q < 32 * c then mW D 0 q else C p q
/-- a cell is free by the map -/
def fbM (C : tS) (x : Nat) : Nat := if C 11 (32 + (x - 34) / 64) / 2 ^ ((x - 34) % 64) % 2 = 0 then 1 else 0
/-- the map is read up to c -/
def rdP (C0 : tS) (c : Nat) (C : tS) : Prop := (∀ p, p ≠ 12 → p ≠ 10 → C p = C0 p) ∧ (∀ q, q ≠ 9 → C 10 q = C0 10 q) ∧ (∀ x, C 12 x = if 34 ≤ x ∧ x < c then fbM C0 x else C0 12 x) ∧ C 10 9 = cn (fun x => fbM C0 x == 1) 34 (c - 34)
def rd0 (C : tS) : tS := up2 (up2 (up2 (emF (clF C) (C 10 16)) 10 9 0) 10 10 0) 10 14 34
section LOC
variable {b0 fu : Nat} {σ τ : tM} {bi : Nat → Nat} {w : Nat → Nat × Nat} {C Cs C0 A : tS} {D : tD} {G G' : Nat → Prop} {n s r x k : Nat}
theorem rdM23 (hc : ci C0) : ∀ m c f σ C, CM b0 σ C D → rdP C0 c C → 34 ≤ c → c + m = C0 10 7 → m < f → wp (FC b0) σ (L_X5_readMap_23 b0 fu f (b0 + 10) (nI c) σ) (fun _ τ => ∃ C', CM b0 τ C' D ∧ rdP C0 (C0 10 7) C') := by
  have c7 := hc.1
  intro m
  induction m with
  | zero =>
    intro c f σ C h l h34 hk hf
    obtain ⟨f, rfl⟩ : ∃ g, f = g + 1 := ⟨f - 1, by omega⟩
    have e : c = C0 10 7 := by omega
    unfold L_X5_readMap_23
    rw [ltb_def, ckC_10 h.lay, cf_10_7 h.ca, l.2.1 7 (by decide), if_l (by omega) (by omega), if_pos (by omega)]
    rw [e] at l
    exact wp_ret ((FC_good b0).1 _) ⟨C, h, l⟩
  | succ m ih =>
    intro c f σ C h l h34 hk hf
    obtain ⟨f, rfl⟩ : ∃ g, f = g + 1 := ⟨f - 1, by omega⟩
    have L := h.lay
    obtain ⟨l1, l2, l3, l4⟩ := l
    have cci : ci C := ci_cong hc (fun q _ => l2 q (by omega)) (l1 15 (by decide) (by decide)) (l1 16 (by decide) (by decide)) (l1 17 (by decide) (by decide))
    have e11 : C 11 = C0 11 := l1 11 (by decide) (by decide)
    have bw := cb_11 h.ca (32 + (c - 34) / 64)
    have wo : woC C 1 ((c - 34) / 64) = C0 11 (32 + (c - 34) / 64) := by
      unfold woC
      rw [if_pos (by rw [l2 7 (by decide)]; omega), e11]
    rw [e11] at bw
    have i6 : nI (c - 34) >>> ((6 : Int32) &&& 31) = nI ((c - 34) / 64) := pk_shrN (by omega) _ 6 (by decide)
    have i63 : nI (c - 34) &&& (63 : Int32) = nI ((c - 34) % 64) := pk_andN (by omega) 6 (by decide)
    have cnb : C 10 9 ≤ c - 34 := by
      rw [l4]
      exact cn_le _ _ _
    have fin : ∀ s, s = fbM C0 c → CM b0 (sI (sI σ (b0 + 12) c (nI s - 1)) (b0 + 10) 9 (nI (C 10 9) + nI s)) (up2 (up2 C 12 c s) 10 9 (C 10 9 + s)) D → FC b0 σ (sI (sI σ (b0 + 12) c (nI s - 1)) (b0 + 10) 9 (nI (C 10 9) + nI s)) → wp (FC b0) σ (L_X5_readMap_23 b0 fu f (b0 + 10) (nI (c + 1)) (sI (sI σ (b0 + 12) c (nI s - 1)) (b0 + 10) 9 (nI (C 10 9) + nI s))) (fun _ τ => ∃ C', CM b0 τ C' D ∧ rdP C0 (C0 10 7) C') := by
      intro s es hm hF
      refine wp_from (FC_good b0) hF (ih (c + 1) f _ _ hm ⟨fun p p1 p2 => ?_, fun q hq => ?_, fun x => ?_, ?_⟩ (by omega) (by omega) (by omega))
      · rw [up2_rown p2, up2_rown p1, l1 p p1 p2]
      · rw [up2_j hq, up2_o (by decide), l2 q hq]
      · rw [up2_o (by decide)]
        by_cases cx : x = c
        · rw [cx, up2_s, if_pos ⟨h34, by omega⟩, es]
        · rw [up2_j cx, l3 x]
          by_cases d : 34 ≤ x ∧ x < c
          · rw [if_pos d, if_pos ⟨d.1, by omega⟩]
          · rw [if_neg d, if_neg (by omega)]
      · rw [up2_s, l4, show c + 1 - 34 = c - 34 + 1 by omega, cn_snoc, show 34 + (c - 34) = c by omega, es]
        unfold fbM
        split <;> simp
    have bd9 : C 10 9 + 1 < 2147483648 := by omega
    unfold L_X5_readMap_23
    rw [ltb_def, ckC_10 L, cf_10_7 h.ca, l2 7 (by decide), if_l (by omega) (by omega), if_neg (by omega), ltb_def, show nI c - (34 : Int32) = nI (c - 34) from nI_sb (a := c) (b := 34) (by omega), i6, i63, show (1 : Int32) = nI 1 from rfl, word_c h.ca cci (by omega) (by omega), cll_some, wo, wb_bit bw (by omega), lgz (by have := Nat.mod_lt (C0 11 (32 + (c - 34) / 64) / 2 ^ ((c - 34) % 64)) (show 0 < 2 by decide); omega)]
    by_cases cb : C0 11 (32 + (c - 34) / 64) / 2 ^ ((c - 34) % 64) % 2 = 0
    · rw [if_pos cb]
      have h1 : CM b0 (sI σ (b0 + 12) c (nI 1 - 1)) (up2 C 12 c 1) D := CM_fix (o := 12) h rfl rfl (by decide)
      have h2 : CM b0 (sI (sI σ (b0 + 12) c (nI 1 - 1)) (b0 + 10) 9 (nI (C 10 9) + nI 1)) (up2 (up2 C 12 c 1) 10 9 (C 10 9 + 1)) D := CM_fix (o := 10) h1 rfl (nI_add _ _) bd9
      unfold J_X5_readMap_62 J_X5_readMap_77 J_X5_readMap_92
      have z0 : (0 : Int32) = nI 1 - 1 := by decide
      rw [ckC_10 L, osm_p (rfC_10_1 L), if_pos rfl, ckC_12 L, ckI_n (by omega) (by omega), nI_cl (by omega)]
      rw [show sI σ (b0 + 12) c (0 : Int32) = sI σ (b0 + 12) c (nI 1 - 1) from rfl, ckC_10 h1.lay, if_pos rfl, ckC_10 h1.lay, ltb_def, ofi, cf_10_9 h1.ca, up2_o (by decide)]
      exact fin 1 (by unfold fbM; rw [if_pos cb]) h2 (FC_2 (FC_sI h.rf (by omega)) (FC_sI h1.rf (by omega)))
    · rw [if_neg cb]
      have h1 : CM b0 (sI σ (b0 + 12) c (nI 0 - 1)) (up2 C 12 c 0) D := CM_fix (o := 12) h rfl rfl (by decide)
      have h2 : CM b0 (sI (sI σ (b0 + 12) c (nI 0 - 1)) (b0 + 10) 9 (nI (C 10 9) + nI 0)) (up2 (up2 C 12 c 0) 10 9 (C 10 9 + 0)) D := CM_fix (o := 10) h1 rfl (nI_add _ _) (by show _ < 2147483648; omega)
      unfold J_X5_readMap_62 J_X5_readMap_77 J_X5_readMap_92
      rw [ckC_10 L, osm_p (rfC_10_1 L), if_neg (show ¬ nI 1 = (0 : Int32) by decide), ckC_12 L, ckI_n (by omega) (by omega), nI_cl (by omega)]
      rw [show sI σ (b0 + 12) c (-1 : Int32) = sI σ (b0 + 12) c (nI 0 - 1) from rfl, ckC_10 h1.lay, if_neg (show ¬ nI 1 = (0 : Int32) by decide), ckC_10 h1.lay, ltb_def, ofi, cf_10_9 h1.ca, up2_o (by decide)]
      exact fin 0 (by unfold fbM; rw [if_neg cb]) h2 (FC_2 (FC_sI h.rf (by omega)) (FC_sI h1.rf (by omega)))
theorem rd0_f : (∀ p, p ≠ 10 → p ≠ 15 → p ≠ 16 → p ≠ 17 → rd0 C p = C p) ∧ (∀ q, rd0 C 10 q = if q = 14 then 34 else if 9 ≤ q ∧ q ≤ 13 then 0 else C 10 q) ∧ (∀ q, rd0 C 15 q = 0 ∧ rd0 C 16 q = 0 ∧ rd0 C 17 q = 0) := by
  unfold rd0
  refine ⟨fun p p1 p2 p3 p4 => ?_, fun q => ?_, fun q => ⟨?_, ?_, ?_⟩⟩
  · rw [up2_rown p1, up2_rown p1, up2_rown p1]
    funext q
    unfold emF clF
    rw [if_neg (by omega), if_neg p1, if_neg p4, if_neg (by omega)]
  · by_cases c1 : q = 14
    · rw [if_pos c1, c1, up2_s]
    · rw [if_neg c1, up2_j c1]
      by_cases c2 : q = 10
      · rw [c2, up2_s, if_pos (by omega)]
      · rw [up2_j c2]
        by_cases c3 : q = 9
        · rw [c3, up2_s, if_pos (by omega)]
        · rw [up2_j c3]
          unfold emF clF
          rw [if_neg (by omega), if_pos rfl]
          by_cases c4 : q = 11 ∨ q = 12
          · rw [if_pos c4, if_pos (by omega)]
          · rw [if_neg c4]
            by_cases c5 : q = 16
            · rw [if_pos c5, if_neg (by omega), c5]
            · rw [if_neg c5, if_neg (by decide)]
              by_cases c6 : q = 13
              · rw [if_pos ⟨rfl, c6⟩, if_pos (by omega)]
              · rw [if_neg (fun e => c6 e.2), if_neg (by omega)]
  · rw [up2_o (by decide), up2_o (by decide), up2_o (by decide)]
    rfl
  · rw [up2_o (by decide), up2_o (by decide), up2_o (by decide)]
    rfl
  · rw [up2_o (by decide), up2_o (by decide), up2_o (by decide)]
    rfl
theorem ci_rd (hc : ci C) : ci (rd0 C) := ci_cong (ci_em (g := C 10 16) (ci_cl hc)) (fun q hq => by
  unfold rd0
  rw [up2_j (by omega), up2_j (by omega), up2_j (by omega)]) (by unfold rd0; rw [up2_rown (by decide), up2_rown (by decide), up2_rown (by decide)]) (by unfold rd0; rw [up2_rown (by decide), up2_rown (by decide), up2_rown (by decide)]) (by unfold rd0; rw [up2_rown (by decide), up2_rown (by decide), up2_rown (by decide)])
theorem readMap_c (h : CM b0 σ C D) (hc : ci C) (hu : 3000 ≤ fu) : wp (FC b0) σ (m_X5_readMap b0 fu (b0 + 10) σ) (fun _ τ => ∃ C', CM b0 τ C' D ∧ rdP (rd0 C) (C 10 7) C') := by
  have c7 := hc.1
  refine wp_grw (FC_good b0) ?_
  rw [ckC_10 h.lay]
  refine wp_bind (FC_good b0) (forgetMarks_c (fu := fu) h hc hu) ?_
  intro _ ρ q
  have q1 : CM b0 (sI ρ (b0 + 10) 9 0) (up2 (emF (clF C) (C 10 16)) 10 9 0) D := CM_fix (o := 10) q rfl rfl (by decide)
  have q2 : CM b0 (sI (sI ρ (b0 + 10) 9 0) (b0 + 10) 10 0) (up2 (up2 (emF (clF C) (C 10 16)) 10 9 0) 10 10 0) D := CM_fix (o := 10) q1 rfl rfl (by decide)
  have q3 : CM b0 (sI (sI (sI ρ (b0 + 10) 9 0) (b0 + 10) 10 0) (b0 + 10) 14 34) (rd0 C) D := CM_fix (o := 10) q2 rfl (show (34 : Int32) = nI 34 from rfl) (by decide)
  rw [ckC_10 q.lay]
  have e7 : rd0 C 10 7 = C 10 7 := by
    rw [rd0_f.2.1]
    rfl
  have hF : FC b0 ρ (sI (sI (sI ρ (b0 + 10) 9 0) (b0 + 10) 10 0) (b0 + 10) 14 34) := FC_2 (FC_sI q.rf (by omega)) (FC_2 (FC_sI q1.rf (by omega)) (FC_sI q2.rf (by omega)))
  refine wp_from (FC_good b0) hF ?_
  have := rdM23 (b0 := b0) (fu := fu) (D := D) (ci_rd hc) (C 10 7 - 34) 34 fu _ _ q3 ⟨fun _ _ _ => rfl, fun _ _ => rfl, fun x => by rw [if_neg (by omega)], by rw [rd0_f.2.1]; rfl⟩ (by omega) (by rw [e7]; omega) (by omega)
  rw [e7] at this
  exact this
theorem ldM_s {c : Nat} (hc : 1 ≤ c) : ldR (ldM D c C) c (rwD D 21 c) = ldM D (c + 1) C := by
  funext p q
  unfold ldR ldM
  by_cases e : p = 11 ∧ c * 32 ≤ q ∧ q < c * 32 + 32
  · rw [if_pos e, if_pos ⟨e.1, by omega, by omega⟩, rwD_mW, show q / 32 = c by omega, show q % 32 = q - c * 32 by omega]
  · rw [if_neg e]
    by_cases d : p = 11 ∧ 32 ≤ q ∧ q < 32 * c
    · rw [if_pos d, if_pos ⟨d.1, d.2.1, by omega⟩]
    · rw [if_neg d, if_neg (by omega)]
theorem ldA2 {Q : Unit → tM → Prop} (hu : 100 ≤ fu) : ∀ m c f σ, CM b0 σ (ldM D c C) D → c + m = 34 → 1 ≤ c → m < f → (∀ τ, CM b0 τ (ldM D 34 C) D → wp (FC b0) τ (cll (m_X5_readMap b0 fu (b0 + 10) τ) (fun _ ρ9 => L_X2_loadAll_39 b0 fu fu (b0 + 23) (nI 0) ρ9)) Q) → wp (FC b0) σ (L_X2_loadAll_2 b0 fu f (b0 + 23) (nI c) σ) Q := by
  intro m
  induction m with
  | zero =>
    intro c f σ h hk h1 hf K
    obtain ⟨f, rfl⟩ : ∃ g, f = g + 1 := ⟨f - 1, by omega⟩
    have e : c = 34 := by omega
    subst e
    have L := h.lay
    unfold L_X2_loadAll_2
    rw [ltb_def, show (34 : Int32) = nI 34 from rfl, if_l (by omega) (by omega), if_pos (by omega), ckC_23 L, osm_p (rfC_23_1 L), ckC_10 L]
    exact K σ h
  | succ m ih =>
    intro c f σ h hk h1 hf K
    obtain ⟨f, rfl⟩ : ∃ g, f = g + 1 := ⟨f - 1, by omega⟩
    have L := h.lay
    unfold L_X2_loadAll_2
    rw [ltb_def, show (34 : Int32) = nI 34 from rfl, if_l (by omega) (by omega), if_neg (by omega), ckC_23 L, osm_p (rfC_23_1 L), osm_p (rfC_23_3 L), ckC_20 L, baseOf_c h (by omega), cll_some]
    refine load_o h (by omega) (by omega) (Or.inr (Or.inr ⟨rfl, by omega⟩)) hu (fun τ t => ?_)
    rw [ldM_s h1] at t
    rw [ltb_def, ofi]
    exact ih (c + 1) f τ t (by omega) (by omega) (by omega) K
theorem ldA39 (z : LZ bi w A C0 D) (hu : 100 ≤ fu) : ∀ m n f σ C, CM b0 σ C D → LD bi w A C0 D (fun y => (w y).1 < n) C → n + m = 64 → m < f → wp (FC b0) σ (L_X2_loadAll_39 b0 fu f (b0 + 23) (nI n) σ) (fun _ τ => ∃ C', CM b0 τ C' D ∧ LD bi w A C0 D (fun _ => True) C') := by
  intro m
  induction m with
  | zero =>
    intro n f σ C h l hk hf
    obtain ⟨f, rfl⟩ : ∃ g, f = g + 1 := ⟨f - 1, by omega⟩
    unfold L_X2_loadAll_39
    rw [ltb_def, show (64 : Int32) = nI 64 from rfl, if_l (by omega) (by omega), if_pos (by omega)]
    refine wp_ret ((FC_good b0).1 _) ⟨C, h, LD_mono l (fun r hr ur _ => ?_)⟩
    have := (z.2.2.2.2.1.1 r hr ur).2.1
    omega
  | succ m ih =>
    intro n f σ C h l hk hf
    obtain ⟨f, rfl⟩ : ∃ g, f = g + 1 := ⟨f - 1, by omega⟩
    have L := h.lay
    have kb : nd A n 0 < 4 := (nd_k z.2.2.2.2.2.1 (by omega)).1
    have j64 : (nd A n 0 = 1 ∨ nd A n 0 = 2) → wp (FC b0) σ (J_X2_loadAll_64 b0 fu (L_X2_loadAll_39 b0 fu f) (b0 + 23) (nI n) σ) (fun _ τ => ∃ C', CM b0 τ C' D ∧ LD bi w A C0 D (fun _ => True) C') := by
      intro h12
      unfold J_X2_loadAll_64 J_X2_loadAll_69
      rw [ckC_23 L]
      have z0 : (0 : Int32) = nI 0 := rfl
      have nN : wp (FC b0) σ (m_X2_loadNode b0 fu (b0 + 23) (nI n) σ) (fun _ τ => ∃ C', CM b0 τ C' D ∧ LD bi w A C0 D (fun y => (w y).1 < n ∨ (w y).1 = n) C') := by
        refine wp_grw (FC_good b0) ?_
        rw [z0]
        exact ldN2 z (by omega) h12 hu 8 0 fu σ C h (LD_mono l (fun y _ _ g => by
          rcases g with g | ⟨i, hi, _⟩
          · exact g
          · omega)) (by omega) (by omega)
      refine wp_bind (FC_good b0) nN ?_
      rintro _ ρ ⟨C', q1, q2⟩
      rw [ltb_def, ofi]
      exact ih (n + 1) f ρ C' q1 (LD_mono q2 (fun y _ _ g => by omega)) (by omega) (by omega)
    unfold L_X2_loadAll_39
    rw [ltb_def, show (64 : Int32) = nI 64 from rfl, if_l (by omega) (by omega), if_neg (by omega), ckC_23 L, osm_p (rfC_23_2 L), ckC_18 L, kind_c h.ca (by omega), cll_some, LD_ki l z (by omega)]
    show wp (FC b0) σ (if nI (nd A n 0) = nI 1 then _ else if nI (nd A n 0) = nI 2 then _ else _) _
    rw [if_e (by omega) (by omega), if_e (by omega) (by omega)]
    by_cases c1 : nd A n 0 = 1
    · rw [if_pos c1]
      exact j64 (Or.inl c1)
    · rw [if_neg c1]
      by_cases c2 : nd A n 0 = 2
      · rw [if_pos c2]
        exact j64 (Or.inr c2)
      · rw [if_neg c2]
        unfold J_X2_loadAll_69
        rw [ltb_def, ofi]
        refine ih (n + 1) f σ C h (LD_mono l (fun y hy uy g => ?_)) (by omega) (by omega)
        have k := (z.2.2.2.2.1.1 y hy uy).2.2.1
        by_cases e : (w y).1 = n
        · rw [e] at k
          omega
        · omega
/-- all is read: the map's marks, and each block that is got -/
def LE (bi : Nat → Nat) (w : Nat → Nat × Nat) (A C : tS) (D : tD) (C' : tS) : Prop := ∃ C0, rdP (rd0 (ldM D 34 C)) (C 10 7) C0 ∧ LD bi w A C0 D (fun _ => True) C'
theorem loadAll_c (h : CM b0 σ C D) (hc : ci C) (h10 : C 10 7 = 34 + A 35 7 ∧ C 10 8 = A 35 6 ∧ A 35 7 ≤ 2000 ∧ A 35 6 ≤ 4096 ∧ C 1 8 = 34 + A 35 6 + A 35 7) (h0 : ∀ j, j < 32 → C 11 j = 0) (hT : TI w A) (ho : okT A) (hM : MR bi w (mW D 0) A) (hb : ∀ x, bi x < 2147483648) (hu : 3000 ≤ fu) : wp (FC b0) σ (m_X2_loadAll b0 fu (b0 + 23) σ) (fun _ τ => ∃ C', CM b0 τ C' D ∧ LE bi w A C D C') := by
  refine wp_grw (FC_good b0) ?_
  have e1 : ldM D 1 C = C := by
    funext p q
    unfold ldM
    rw [if_neg (by omega)]
  have o1 : (1 : Int32) = nI 1 := rfl
  rw [o1]
  refine ldA2 (C := C) (by omega) 33 1 fu σ (by rw [e1]; exact h) (by omega) (by omega) (by omega) (fun τ t => ?_)
  have r10 : ldM D 34 C 10 = C 10 := by
    funext q
    unfold ldM
    rw [if_neg (by omega)]
  have ro : ∀ p, p ≠ 11 → ldM D 34 C p = C p := fun p hp => by
    funext q
    unfold ldM
    rw [if_neg (fun e => hp e.1)]
  have c1 : ci (ldM D 34 C) := ci_cong hc (fun q _ => by rw [r10]) (ro 15 (by decide)) (ro 16 (by decide)) (ro 17 (by decide))
  refine wp_bind (FC_good b0) (readMap_c (fu := fu) t c1 hu) ?_
  rintro _ ρ ⟨C0, q1, q2⟩
  rw [r10] at q2
  obtain ⟨p1, p2, p3, p4⟩ := q2
  obtain ⟨f1, f2, f3⟩ := rd0_f (C := ldM D 34 C)
  have e11 : ∀ q, q < 1088 → rd0 (ldM D 34 C) 11 q = mW D 0 q := fun q hq => by
    rw [f1 11 (by decide) (by decide) (by decide) (by decide)]
    unfold ldM
    by_cases c : 32 ≤ q
    · rw [if_pos ⟨rfl, c, hq⟩]
    · rw [if_neg (by omega), h0 q (by omega)]
      exact (hM.1 q (by omega)).symm
  have z : LZ bi w A C0 D := by
    refine ⟨ci_cong (ci_rd c1) (fun q hq => p2 q (by omega)) (p1 15 (by decide) (by decide)) (p1 16 (by decide) (by decide)) (p1 17 (by decide) (by decide)), ⟨?_, ?_, h10.2.2.1, h10.2.2.2.1, ?_⟩, fun r hr ur => ?_, fun q hq => ?_, hT, ho, hM, hb⟩
    · rw [p2 7 (by decide), f2, r10]
      exact h10.1
    · rw [p2 8 (by decide), f2, r10]
      exact h10.2.1
    · rw [p1 1 (by decide) (by decide), f1 1 (by decide) (by decide) (by decide) (by decide), ro 1 (by decide)]
      exact h10.2.2.2.2
    · have r7 := (hT.1 r hr ur).1
      rw [p3, if_pos ⟨by omega, by omega⟩]
      unfold fbM
      have := hM.2.1 r (by omega)
      unfold us at ur
      rw [if_pos ⟨hr, ur⟩] at this
      rw [show 34 + r - 34 = r by omega, e11 _ (by omega), this, if_neg (by decide)]
    · rw [p1 11 (by decide) (by decide), e11 q hq]
  refine wp_mono (ldA39 z (by omega) 64 0 fu ρ C0 q1 ⟨fun _ _ _ _ => rfl, fun _ _ => rfl, fun r _ _ g => by omega⟩ (by omega) (by omega)) ?_
  rintro _ τ2 _ ⟨C', t1, t2⟩
  exact ⟨C', t1, C0, ⟨p1, p2, p3, p4⟩, t2⟩
end LOC
