/-! ===== PURE: write and fill, in both ===== -/
section WRI
variable {Φ : tPh} {b0 fu : Nat} {σ τ ρ : tM} {bi bi' sp : Nat → Nat} {w w' : Nat → Nat × Nat} {C C' C2 X : tS} {D D' : tD} {A B B2 : tS} {J J' : tJ} {K n m k r t d l v un e o st x i a : Nat}
/-- tape and paths may be other -/
theorem RO_tp (hΦ : goodT Φ) (hok : ∀ w A, Φ w A → okT A) (hTI : ∀ w A, Φ w A → TI w A) (h : RO Φ bi sp w C D A J) (hc : ∀ p, ¬ (26 ≤ p ∧ p ≤ 31) → C' p = C p) (ha : ∀ o, o ≠ 35 → ¬ (62 ≤ o ∧ o ≤ 64) → o ≠ 70 → B o = A o) (hf : ∀ q, q ≠ 0 → q ≠ 57 → B 35 q = A 35 q) (T : TP C' B) : RO Φ bi sp w C' D B J := by
  have S1 : SR bi w C' A := SR_c h.2.1 (fun p hp => hc p (by omega))
  have S2 : SR bi w C' B := SR_oth S1 (fun _ _ _ => rfl) (fun o ho => ha o (by omega) (by omega) (by omega)) (fun q hq => hf q (by omega) (by omega))
  exact RO_mem hΦ hok hTI h (fun p hp => hc p (by omega)) (fun _ _ => rfl) (fun o p q => ha o (by omega) (by omega) (by omega)) (fun q p _ r => hf q p (by omega)) (by rw [hf 34 (by decide) (by decide)]; exact Nat.le_refl _) S2 (hΦ w A B (ha 36 (by decide) (by decide) (by decide)) (hf 7 (by decide) (by decide)) h.2.2.1) T
theorem TP_use (T : TP C A) : TP (up2 C 26 1 0) (up2 A 35 57 0) := by
  obtain ⟨t1, t2, t3, t4⟩ := T
  have l : ∀ v, lsF (up2 A 35 57 0) v = lsF A v ∧ lsN (up2 A 35 57 0) v = lsN A v := fun v => by
    unfold lsF lsN
    rw [up2_rown (by omega), up2_rown (by decide)]
    exact ⟨rfl, rfl⟩
  refine ⟨?_, fun j => ?_, ?_, ?_⟩
  · rw [up2_s, up2_s]
  · rw [up2_o (by decide), up2_o (by decide)]
    exact t2 j
  · rw [(l 0).1, (l 0).2, up2_rown (by decide), up2_rown (by decide), up2_rown (by decide), up2_rown (by decide)]
    exact t3
  · rw [(l 1).1, (l 1).2, up2_rown (by decide), up2_rown (by decide), up2_rown (by decide), up2_rown (by decide)]
    exact t4
theorem RO_use (hΦ : goodT Φ) (hok : ∀ w A, Φ w A → okT A) (hTI : ∀ w A, Φ w A → TI w A) (h : RO Φ bi sp w C D A J) : RO Φ bi sp w (up2 C 26 1 0) D (up2 A 35 57 0) J := RO_tp hΦ hok hTI h (fun p hp => up2_rown (by omega)) (fun o a _ _ => up2_rown a) (fun q _ b => up2_j b) (TP_use h.1.2.2.2.2.2.2.2.2.2)
theorem RO_kr (q : RO (PH t) bi sp w C D B J) (s : SR bi' w' C2 B2) (p : PH t w' B2) (he : ∀ x, bi x ≠ 0 → bi' x = bi x) (kr : KR B B2) (kc : KC C C2) : RO (PH t) bi' sp w' C2 D B2 J := RO_mem (PH_good t) PH_ok PH_ti q (fun p hp => kc p (by omega)) he (fun o a b => kr.1 o (by omega) (by omega) (by omega)) (fun q _ a _ => kr.2.1 q a) kr.2.2 s p (TP_all q.1.2.2.2.2.2.2.2.2.2 (fun p hp => kc p (by omega)) (fun o ho => kr.1 o (by omega) (by omega) (by omega)) (kr.2.1 57 (by decide)))
theorem dsk_kr (d : dsk B K) (kr : KR B B2) : dsk B2 K := dsk_cg d (fun q hq => kr.2.1 q (by omega)) (kr.1 42 (by decide) (by decide) (by omega)) (kr.1 43 (by decide) (by decide) (by omega))
/-- the end of write -/
theorem wr60_c {v : Int} (hM : ∃ bi' w' C2, CM b0 ρ C2 D ∧ RO (PH t) bi' sp w' C2 D B2 J) (d : dsk B2 K) (z : B2 35 0 = 0) : wp (FC b0) ρ (J_X10_write_60 b0 fu (b0 + 0) (iz v) ρ) (fun x τ => QA (PH t) b0 D J K x τ (v, up2 B2 35 57 0)) := by
  obtain ⟨bi', w', C2, c, q⟩ := hM
  have L := c.lay
  unfold J_X10_write_60
  rw [ckC_0 L, osm_p (rfC_0_6 L), ckC_26 L]
  refine wp_bind (FC_good b0) (useUp_c (fu := fu) c) ?_
  intro _ ρ2 c2
  have dd : dsk (up2 B2 35 57 0) K := dsk_cg d (fun q hq => up2_j (by omega)) (up2_rown (by decide)) (up2_rown (by decide))
  refine wp_ret ((FC_good b0).1 _) ⟨rfl, ?_, bi', sp, w', up2 C2 26 1 0, D, c2, RO_use (PH_good t) PH_ok PH_ti q, EL_r, dd⟩
  show up2 B2 35 57 0 35 0 = 0
  rw [up2_j (by decide)]
  exact z
theorem wbA_o {tx : Nat → Nat} {p : Nat} (h1 : p ≠ 47) (h2 : p ≠ 48) : ∀ m k (A : tS), wbA n a tx k m A p = A p
  | 0, _, _ => rfl
  | m + 1, k, A => by
    show wbA n a tx (k + 1) m (up2 (up2 A 47 (256 * (hasA A n ((a + k) / 256) - 1) + (a + k) % 256) (tx k)) 48 (hasA A n ((a + k) / 256) - 1) 1) p = _
    rw [wbA_o h1 h2 m, up2_rown h2, up2_rown h1]
theorem KR_wb {tx : Nat → Nat} : KR A (wbA n a tx k m A) := ⟨fun o p q r => wbA_o (by omega) (by omega) _ _ _, fun q _ => by rw [wbA_o (by decide) (by decide)], by rw [wbA_o (by decide) (by decide)]; exact Nat.le_refl _⟩
theorem PH_wb {tx : Nat → Nat} (h : PH t w A) : PH t w (wbA n a tx k m A) := PH_good t w A _ (wbA_o (by decide) (by decide) _ _ _) (by rw [wbA_o (by decide) (by decide)]) h
theorem KC_mrB : KC C (mrB C n a l) := by
  unfold mrB mr1
  split
  · exact KC_obL _ _ _
  · exact KC_t KC_re (KC_obL _ _ _)
theorem mr_neg {x y z : Int32} (h : x < 0 ∨ y < 0 ∨ z < 0) : m_X10_makeReady b0 fu (b0 + 0) x y z σ = some (-9, σ) := by
  unfold m_X10_makeReady J_X10_makeReady_12
  by_cases c1 : x < 0
  · rw [if_pos c1]
    exact grw_same
  · rw [if_neg c1]
    by_cases c2 : y < 0
    · rw [if_pos c2]
      exact grw_same
    · rw [if_neg c2]
      have c3 : z < 0 := by
        rcases h with h | h | h
        · exact absurd h c1
        · exact absurd h c2
        · exact h
      have : ¬ (0 : Int32) ≤ z := fun r => by
        have a := Int32.le_iff_toInt_le.mp r
        have b := Int32.lt_iff_toInt_lt.mp c3
        omega
      rw [if_neg this]
      exact grw_same
theorem mrV_bd (hl : l ≤ 16384) : iz (mrV A n a l) ≤ 0 ↔ ¬ 0 < mrV A n a l := by
  unfold mrV
  split
  · exact ⟨fun _ => by decide, fun _ => by decide⟩
  · split
    · exact ⟨fun _ => by decide, fun _ => by decide⟩
    · split
      · rw [iz_n]
        rw [show (nI l ≤ (0 : Int32)) = (l ≤ 0) from nI_leP (a := l) (b := 0) (by omega) (by omega)]
        omega
      · exact ⟨fun _ => by decide, fun _ => by decide⟩
theorem byZ_mr {p3 : Int32} : byZ n a l p3 A = if 0 < mrV A n a l then (mrV A n a l, wbA n a (vz p3 (by2 n a l A)) 0 l (by2 n a l A)) else (mrV A n a l, A) := by
  unfold byZ byG mrV
  by_cases c1 : 272384 < a + l
  · rw [if_pos c1, if_pos c1]
    rfl
  · rw [if_neg c1, if_neg c1]
    by_cases c2 : l = 0
    · rw [if_pos c2, if_pos c2]
      rfl
    · rw [if_neg c2, if_neg c2]
      by_cases c3 : nee A n (a / 256) ((a + l - 1) / 256) ≤ fre A
      · rw [if_pos c3, if_pos c3, if_pos (by omega)]
      · rw [if_neg c3, if_neg c3]
        rfl
theorem mrV_go (h : 0 < mrV A n a l) : a + l ≤ 272384 ∧ 1 ≤ l ∧ nee A n (a / 256) ((a + l - 1) / 256) ≤ fre A := by
  unfold mrV at h
  by_cases c1 : 272384 < a + l
  · rw [if_pos c1] at h
    exact absurd h (by decide)
  · rw [if_neg c1] at h
    by_cases c2 : l = 0
    · rw [if_pos c2] at h
      exact absurd h (by decide)
    · rw [if_neg c2] at h
      by_cases c3 : nee A n (a / 256) ((a + l - 1) / 256) ≤ fre A
      · exact ⟨by omega, by omega, c3⟩
      · rw [if_neg c3] at h
        exact absurd h (by decide)
theorem fill_c {x off len v : Int32} (hu : 10000 ≤ fu) (h : CM b0 σ C D) (hR : ST (PH t) bi sp w C D A J) (hd : dsk A (K + 2104102)) (hg : A 35 18 = 1 → gsA A ≤ A 35 6 ∧ A 35 34 + 1 < 1000000 ∧ A 35 28 + 1 < 1000) (hun : un < 1000000000) (he : 8 + 36 * tcA A + rcA A ≤ e) (ho : 4 + 2 * tcA A ≤ o) (hH : HO A) (h34 : A 35 34 + 301 < 1000000) :
    wp (FC b0) σ (m_X10_fill b0 fu (b0 + 0) x off len v σ) (fun v' τ => ∀ s, AZQ (PH t) b0 D K e o v' τ (pubX A J un s (fiY x off len v))) := by
  refine pubA_c (PH_good t) PH_ok (fun _ _ h => h) (by omega) h hR hd hg hun he ho (fun B J' ρ sp' C' D' af c q d => ?_)
  clear he ho hg
  have hB := AF_HO af hH
  have z := af.2.1.1
  have b34 : B 35 34 + 300 < 1000000 := by have := af.2.2.1.2; omega
  have L := c.lay
  have S := q.2.1
  have P := q.2.2.1
  have id : ∀ v : Int, QA (PH t) b0 D' J' K (.inl (iz v)) ρ (v, B) := fun v => QA_id (Nat.le_refl _) q c d z
  unfold J_X10_fill_34 J_X10_fill_65
  obtain ⟨y0, fo, fo1, fo2⟩ : ∃ y, m_X10_fileOf b0 fu (b0 + 0) x ρ = some (y, ρ) ∧ (hdA B x = none → y = -9) ∧ ∀ n, hdA B x = some n → y = nI n := ⟨_, fileOf_c c.ca S.zm.2.2.2.2.2.2.2.2.1 x, fun h => by rw [h], fun n h => by rw [h]⟩
  rw [ckC_0 L, fo, cll_some]
  have bad : (hdA B x = none ∨ off < 0 ∨ len < 0 ∨ fiF len v = false) → ∀ s, fiY x off len v B s = (-9, B) := fun y s => by
    unfold fiY hbY
    cases ex : hdA B x with
    | none => rfl
    | some n =>
      rcases y with y | y
      · rw [ex] at y
        cases y
      · show (if off < 0 ∨ len < 0 ∨ fiF len v = false then _ else _) = _
        rw [if_pos y]
  have fin9 : (hdA B x = none ∨ off < 0 ∨ len < 0 ∨ fiF len v = false) → wp (FC b0) ρ (some (Sum.inl (-9), ρ)) (fun v' τ => ∀ s, QA (PH t) b0 D' J' K v' τ (fiY x off len v B s)) := fun y => by
    refine wp_ret ((FC_good b0).1 _) (fun s => ?_)
    rw [bad y s]
    exact id (-9)
  by_cases c3 : (16384 : Int32) < len
  · rw [if_pos c3]
    exact fin9 (Or.inr (Or.inr (Or.inr (by unfold fiF; rw [decide_eq_true (Or.inl c3)]; rfl))))
  rw [if_neg c3]
  by_cases c4 : v < 0
  · rw [if_pos c4]
    exact fin9 (Or.inr (Or.inr (Or.inr (by unfold fiF; rw [decide_eq_true (Or.inr (Or.inl c4))]; rfl))))
  rw [if_neg c4]
  obtain ⟨wv, hw, rfl⟩ := nI_of c4
  by_cases c5 : wv ≤ 255
  · rw [if_pos (show nI wv ≤ (255 : Int32) from (nI_leP (a := wv) (b := 255) hw (by omega)).mpr c5), ckC_0 L]
    have ff : fiF len (nI wv) = true := by
      unfold fiF
      rw [decide_eq_false (fun q => by
        rcases q with q | q | q
        · exact c3 q
        · exact c4 q
        · have := (nI_ltP (a := 255) (b := wv) (by omega) hw).mp q
          omega)]
      rfl
    by_cases cn : hdA B x = none ∨ off < 0 ∨ len < 0
    · have e9 : m_X10_makeReady b0 fu (b0 + 0) y0 off len ρ = some (-9, ρ) := by
        refine mr_neg ?_
        rcases cn with y | y | y
        · rw [fo1 y]
          exact Or.inl (by decide)
        · exact Or.inr (Or.inl y)
        · exact Or.inr (Or.inr y)
      rw [e9, cll_some, if_pos (by decide)]
      exact fin9 (by rcases cn with y | y | y; exact Or.inl y; exact Or.inr (Or.inl y); exact Or.inr (Or.inr (Or.inl y)))
    have cnh : ¬ hdA B x = none := fun y => cn (Or.inl y)
    have cno : ¬ off < 0 := fun y => cn (Or.inr (Or.inl y))
    have cnl : ¬ len < 0 := fun y => cn (Or.inr (Or.inr y))
    obtain ⟨a, ha, rfl⟩ := nI_of cno
    obtain ⟨l, hl, rfl⟩ := nI_of cnl
    have l16 : l ≤ 16384 := by
      rcases Nat.lt_or_ge 16384 l with y | y
      · exact absurd ((nI_ltP (a := 16384) (b := l) (by omega) hl).mpr y) c3
      · exact y
    cases ex : hdA B x with
    | none => exact absurd ex cnh
    | some n =>
      obtain ⟨n1, n2⟩ := hd_HO hB ex
      have ey : ∀ s, fiY x (nI a) (nI l) (nI wv) B s = byZ n a l (nI wv) B := fun s => by
        unfold fiY hbY
        rw [ex]
        show (if nI a < 0 ∨ nI l < 0 ∨ fiF (nI l) (nI wv) = false then _ else byZ n (nI a).toNatClampNeg (nI l).toNatClampNeg (nI wv) B) = _
        rw [if_neg (fun y => by
          rcases y with y | y | y
          · exact cno y
          · exact cnl y
          · rw [ff] at y
            cases y), nI_cl ha, nI_cl hl]
      rw [fo2 n ex]
      refine wp_bind (FC_good b0) (makeReady_c (fu := fu) hu c S P n1 n2 ha l16 b34) ?_
      rintro y ρ1 ⟨ey1, c1⟩
      subst ey1
      by_cases cp : 0 < mrV B n a l
      · rw [if_pos cp] at c1
        have L1 := c1.lay
        obtain ⟨g1, g2, g3⟩ := mrV_go cp
        obtain ⟨bi', w', f1, f2, f3, f4, f5, f6⟩ := rdy_fx S P n1 n2 g1 g2 l16 g3 b34
        rw [if_neg (fun y => ((mrV_bd l16).mp y) cp), ckC_0 L1, osm_p (rfC_0_2 L1), ckC_18 L1]
        refine wp_bind (FC_good b0) (storeSame_c (fu := fu) c1 f1.rk.1 n1 (by omega) g1 (show wv < 256 by omega) hu) ?_
        intro _ ρ2 c2
        refine wp_ret ((FC_good b0).1 _) (fun s => ?_)
        have st := SR_stS (at_ := a) (len := l) (v := wv) n1 (by omega) g2 g1 ((a + l - 1) / 256 + 1 - a / 256) (a / 256) 0 _ _ f1 f5 (by omega) (fun y => by omega) (fun _ => ⟨by omega, rfl⟩) (Or.inl rfl) (fun j j1 j2 => by
          have := f6 (if a / 256 = j then 0 else 256 * j - a) (by split <;> omega)
          have ej : (a + if a / 256 = j then 0 else 256 * j - a) / 256 = j := by split <;> omega
          rw [ej] at this
          exact this)
        rw [Nat.sub_zero] at st
        have vz_e : vz (nI wv) (by2 n a l B) = fun _ => wv := by
          funext k
          unfold vz
          rw [if_pos (iz_neg hw), nI_cl hw]
        rw [ey s, byZ_mr, if_pos cp, vz_e]
        exact QA_mem (Nat.le_refl _) q c2 st.1 (PH_wb f3) f2 (KR_t f4.kr KR_wb) (KC_t KC_mrB (KC_stS _ _ _)) d z
      · rw [if_neg cp] at c1
        rw [if_pos ((mrV_bd l16).mpr cp)]
        refine wp_ret ((FC_good b0).1 _) (fun s => ?_)
        rw [ey s, byZ_mr, if_neg cp]
        exact QA_id (Nat.le_refl _) q c1 d z
  · rw [if_neg (show ¬ nI wv ≤ (255 : Int32) from fun r => c5 ((nI_leP (a := wv) (b := 255) hw (by omega)).mp r))]
    refine fin9 (Or.inr (Or.inr (Or.inr ?_)))
    unfold fiF
    rw [decide_eq_true (Or.inr (Or.inr (show (255 : Int32) < nI wv from (nI_ltP (a := 255) (b := wv) (by omega) hw).mpr (by omega))))]
    rfl
theorem write_c {x off len : Int32} (hu : 10000 ≤ fu) (h : CM b0 σ C D) (hR : ST (PH t) bi sp w C D A J) (hd : dsk A (K + 2104102)) (hg : A 35 18 = 1 → gsA A ≤ A 35 6 ∧ A 35 34 + 1 < 1000000 ∧ A 35 28 + 1 < 1000) (hun : un < 1000000000) (he : 8 + 36 * tcA A + rcA A ≤ e) (ho : 4 + 2 * tcA A ≤ o) (hH : HO A) (h34 : A 35 34 + 301 < 1000000) (h57 : A 35 57 ≤ 4000) :
    wp (FC b0) σ (m_X10_write b0 fu (b0 + 0) x off len σ) (fun v' τ => ∀ s, AZQ (PH t) b0 D K e o v' τ (pubX A J un s (wrY x off len))) := by
  refine pubA_c (PH_good t) PH_ok (fun _ _ h => h) (by omega) h hR hd hg hun he ho (fun B J' ρ sp' C' D' af c q d => ?_)
  clear he ho hg
  have hB := AF_HO af hH
  have z := af.2.1.1
  have b34 : B 35 34 + 300 < 1000000 := by have := af.2.2.1.2; omega
  have b57 : B 35 57 ≤ 4000 := by rw [af.2.1.2.2.2]; exact h57
  have L := c.lay
  have S := q.2.1
  have P := q.2.2.1
  have T := q.1.2.2.2.2.2.2.2.2.2
  obtain ⟨y0, fo, fo1, fo2⟩ : ∃ y, m_X10_fileOf b0 fu (b0 + 0) x ρ = some (y, ρ) ∧ (hdA B x = none → y = -9) ∧ ∀ n, hdA B x = some n → y = nI n := ⟨_, fileOf_c c.ca S.zm.2.2.2.2.2.2.2.2.1 x, fun h => by rw [h], fun n h => by rw [h]⟩
  rw [ckC_0 L, fo, cll_some, ckC_0 L, osm_p (rfC_0_6 L), ckC_26 L, cf_26_1 c.ca, T.1]
  have bad : (hdA B x = none ∨ off < 0 ∨ len < 0 ∨ wrF B len = false) → ∀ s, wrY x off len B s = (-9, up2 B 35 57 0) := fun y s => by
    have : hbY x off len (-1) (wrF B len) B = (-9, B) := by
      unfold hbY
      cases ex : hdA B x with
      | none => rfl
      | some n =>
        rcases y with y | y
        · rw [ex] at y
          cases y
        · show (if off < 0 ∨ len < 0 ∨ wrF B len = false then _ else _) = _
          rw [if_pos y]
    unfold wrY
    rw [this]
  have fin9 : (hdA B x = none ∨ off < 0 ∨ len < 0 ∨ wrF B len = false) → wp (FC b0) ρ (J_X10_write_60 b0 fu (b0 + 0) (-9) ρ) (fun v' τ => ∀ s, QA (PH t) b0 D' J' K v' τ (wrY x off len B s)) := fun y => by
    simp only [bad y]
    have := wr60_c (fu := fu) (v := -9) ⟨bi, w, C', c, q⟩ d z
    obtain ⟨v1, τ1, y1, y2, y3⟩ := this
    exact ⟨v1, τ1, y1, y2, fun _ => y3⟩
  unfold J_X10_write_38
  have wf : wrF B len = !decide (nI (B 35 57) < len) := rfl
  by_cases c3 : len ≤ nI (B 35 57)
  · have c3' : ¬ nI (B 35 57) < len := fun r => by
      have a := Int32.le_iff_toInt_le.mp c3
      have b := Int32.lt_iff_toInt_lt.mp r
      omega
    have ff : wrF B len = true := by
      rw [wf, decide_eq_false c3']
      rfl
    rw [if_pos c3]
    by_cases cn : hdA B x = none ∨ off < 0 ∨ len < 0
    · have e9 : m_X10_makeReady b0 fu (b0 + 0) y0 off len ρ = some (-9, ρ) := by
        refine mr_neg ?_
        rcases cn with y | y | y
        · rw [fo1 y]
          exact Or.inl (by decide)
        · exact Or.inr (Or.inl y)
        · exact Or.inr (Or.inr y)
      rw [e9, cll_some, if_pos (show (-9 : Int32) ≤ 0 by decide)]
      exact fin9 (by rcases cn with y | y | y; exact Or.inl y; exact Or.inr (Or.inl y); exact Or.inr (Or.inr (Or.inl y)))
    have cnh : ¬ hdA B x = none := fun y => cn (Or.inl y)
    have cno : ¬ off < 0 := fun y => cn (Or.inr (Or.inl y))
    have cnl : ¬ len < 0 := fun y => cn (Or.inr (Or.inr y))
    obtain ⟨a, ha, rfl⟩ := nI_of cno
    obtain ⟨l, hl, rfl⟩ := nI_of cnl
    have l4 : l ≤ 4000 := by
      have := (nI_leP (a := l) (b := B 35 57) hl (by omega)).mp c3
      omega
    cases ex : hdA B x with
    | none => exact absurd ex cnh
    | some n =>
      obtain ⟨n1, n2⟩ := hd_HO hB ex
      have ey : ∀ s, wrY x (nI a) (nI l) B s = ((byZ n a l (-1) B).1, up2 (byZ n a l (-1) B).2 35 57 0) := fun s => by
        have : hbY x (nI a) (nI l) (-1) (wrF B (nI l)) B = byZ n a l (-1) B := by
          unfold hbY
          rw [ex]
          show (if nI a < 0 ∨ nI l < 0 ∨ wrF B (nI l) = false then _ else byZ n (nI a).toNatClampNeg (nI l).toNatClampNeg (-1) B) = _
          rw [if_neg (fun y => by
            rcases y with y | y | y
            · exact cno y
            · exact cnl y
            · rw [ff] at y
              cases y), nI_cl ha, nI_cl hl]
        unfold wrY
        rw [this]
      rw [fo2 n ex]
      refine wp_bind (FC_good b0) (makeReady_c (fu := fu) hu c S P n1 n2 ha (show l ≤ 16384 by omega) b34) ?_
      rintro y ρ1 ⟨ey1, c1⟩
      subst ey1
      have drop : ∀ {ρ2 : tM} {Y : Int × tS}, (wp (FC b0) ρ2 (J_X10_write_60 b0 fu (b0 + 0) (iz (mrV B n a l)) ρ2) (fun v' τ => QA (PH t) b0 D' J' K v' τ Y)) → (∀ s, wrY x (nI a) (nI l) B s = Y) → wp (FC b0) ρ2 (J_X10_write_60 b0 fu (b0 + 0) (iz (mrV B n a l)) ρ2) (fun v' τ => ∀ s, QA (PH t) b0 D' J' K v' τ (wrY x (nI a) (nI l) B s)) := fun ⟨v1, τ1, y1, y2, y3⟩ e => ⟨v1, τ1, y1, y2, fun s => by rw [e s]; exact y3⟩
      by_cases cp : 0 < mrV B n a l
      · rw [if_pos cp] at c1
        have L1 := c1.lay
        obtain ⟨g1, g2, g3⟩ := mrV_go cp
        obtain ⟨bi', w', f1, f2, f3, f4, f5, f6⟩ := rdy_fx S P n1 n2 g1 g2 (by omega) g3 b34
        rw [if_neg (fun y => ((mrV_bd (by omega)).mp y) cp), ckC_0 L1, osm_p (rfC_0_2 L1), osm_p (rfC_0_6 L1), ckC_18 L1]
        refine wp_bind (FC_good b0) (storeTape_c (fu := fu) c1 f1.rk.1 n1 l4 (by omega) g1 hu) ?_
        intro _ ρ2 c2
        have e27 : mrB C' n a l 27 = vz (-1) (by2 n a l B) := by
          funext k
          unfold vz
          rw [if_neg (by decide), KC_mrB 27 (by omega), T.2.1 k, f4.kr.1 70 (by decide) (by decide) (by omega)]
        have st := SR_stT (at_ := a) (tx := vz (-1) (by2 n a l B)) n1 l 0 (ptC (mrB C' n a l) n (a / 256) % 2048) _ _ f1 f5 (by omega) e27 (fun j j1 j2 => ⟨f6 j (by omega), by rw [← e27]; exact cb_27 c1.ca j⟩) (fun _ _ => rfl)
        have kr : KR B (wbA n a (vz (-1) (by2 n a l B)) 0 l (by2 n a l B)) := KR_t f4.kr KR_wb
        exact drop (wr60_c (fu := fu) ⟨bi', w', _, c2, RO_kr q st.1 (PH_wb f3) f2 kr (KC_t KC_mrB (KC_stT _ _ _ _))⟩ (dsk_kr d kr) (by rw [kr.2.1 0 (by decide)]; exact z)) (fun s => by rw [ey s, byZ_mr, if_pos cp])
      · rw [if_neg cp] at c1
        rw [if_pos ((mrV_bd (by omega)).mpr cp)]
        exact drop (wr60_c (fu := fu) ⟨bi, w, C', c1, q⟩ d z) (fun s => by rw [ey s, byZ_mr, if_neg cp])
  · have c3' : nI (B 35 57) < len := by
      rcases Int32.lt_or_le (nI (B 35 57)) len with r | r
      · exact r
      · exact absurd r c3
    rw [if_neg c3, if_pos (show (-9 : Int32) ≤ 0 by decide)]
    exact fin9 (Or.inr (Or.inr (Or.inr (by rw [wf, decide_eq_true c3']; rfl))))
end WRI
