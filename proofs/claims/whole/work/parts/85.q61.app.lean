/-! ===== PURE: the journal's applySome, in both ===== -/
section APS
variable {Φ : tPh} {b0 fu : Nat} {σ τ : tM} {bi sp : Nat → Nat} {w : Nat → Nat × Nat} {C C' : tS} {D D' : tD} {A B : tS} {J J' : tJ} {K n m c : Nat}
theorem sr_shi {p : Nat → Bool} (s : Nat) : ∀ m a, sr p (a + s) m = sr (fun i => p (i + s)) a m + s
  | 0, _ => rfl
  | m + 1, a => by
    show (if p (a + s) = true then a + s else sr p (a + s + 1) m) = (if p (a + s) = true then a else sr (fun i => p (i + s)) (a + 1) m) + s
    by_cases c : p (a + s) = true
    · rw [if_pos c, if_pos c]
    · rw [if_neg c, if_neg c, show a + s + 1 = a + 1 + s by omega, sr_shi s m (a + 1)]
theorem sr_eq {p q : Nat → Bool} : ∀ m k, (∀ i, k ≤ i → i < k + m → p i = q i) → sr p k m = sr q k m
  | 0, _, _ => rfl
  | m + 1, k, h => by
    show (if p k = true then k else sr p (k + 1) m) = (if q k = true then k else sr q (k + 1) m)
    rw [h k (by omega) (by omega), sr_eq m (k + 1) (fun i a b => h i (by omega) (by omega))]
/-- revoked later: the same in both -/
theorem grv_eq (h : JR sp C D A J) (n1 : A 35 35 < n) (n2 : n ≤ A 35 29) : grv J (nbA A c) (n - A 35 35 - 1 + 1) (A 35 29 - n) = decide (sr (fun n => rvD D n c) (n + 1) (C 20 13 - n) < C 20 13 + 1) := by
  obtain ⟨u1, u2, u3, u4, u5, u6⟩ := h
  have jo := u3
  unfold JO at jo
  have e13 : C 20 13 = A 35 29 := u1.2.2.2.2.1
  unfold grv
  rw [e13]
  have e1 : sr (fun n => rvD D n c) (n + 1) (A 35 29 - n) = sr (fun k => irJ J k (nbA A c)) (n - A 35 35) (A 35 29 - n) + (A 35 35 + 1) := by
    have := sr_shi (p := fun n => rvD D n c) (A 35 35 + 1) (A 35 29 - n) (n - A 35 35)
    rw [show n - A 35 35 + (A 35 35 + 1) = n + 1 by omega] at this
    rw [this]
    congr 1
    refine sr_eq _ _ (fun i a b => ?_)
    have t := u6 (i + (A 35 35 + 1)) (by rw [u2.1]; omega) (by rw [u2.2]; omega)
    have := rv_eq (c := c) t
    rw [show i + (A 35 35 + 1) - A 35 35 - 1 = i by omega] at this
    exact this.symm
  rw [e1, show n - A 35 35 - 1 + 1 = n - A 35 35 by omega]
  refine decide_eq_decide.mpr ?_
  omega
/-- the number of what is applied moves on -/
theorem RO_30 (hΦ : goodT Φ) (hok : ∀ w A, Φ w A → okT A) (h : RO Φ bi sp w C D A J) (n1 : A 35 31 ≤ n) (n2 : n ≤ A 35 29) : RO Φ bi sp w (up2 C 20 14 n) D (up2 A 35 30 n) J := by
  obtain ⟨cO5, sr5, t5, lc5, hc5, gh5, on5, nr5, z5⟩ := h
  obtain ⟨r1, r2, r3, r4, r5, r6, r7, r8, r9, r10⟩ := cO5
  have b35 : ∀ q, q ≠ 30 → up2 A 35 30 n 35 q = A 35 q := fun q hq => up2_j hq
  have bo : ∀ o, o ≠ 35 → up2 A 35 30 n o = A o := fun o ho => up2_rown ho
  have c20 : ∀ q, q ≠ 14 → up2 C 20 14 n 20 q = C 20 q := fun q hq => up2_j hq
  have cp : ∀ p, p ≠ 20 → up2 C 20 14 n p = C p := fun p hp => up2_rown hp
  have sd : sD A (up2 A 35 30 n) := ⟨bo _ (by decide), bo _ (by decide), bo _ (by decide), bo _ (by decide), bo _ (by decide), b35 _ (by decide), b35 _ (by decide)⟩
  have wb : ∀ k i, whB (up2 A 35 30 n) J k i = whB A J k i := fun k i => by unfold whB; rw [b35 6 (by decide)]
  refine ⟨⟨DR_all r1 (fun p hp => cp p (by omega)) rfl rfl (fun _ _ _ _ _ _ => rfl) (fun o a b => bo o (by omega)) (fun q hq => b35 q (by omega)), ?_, ?_, CT_all hΦ r4 (fun q hq => b35 q (by omega)) (fun _ _ _ _ => rfl) hok (by have := r2.2.2.1; unfold JO at this; omega), ?_, ?_, ?_, ?_, ?_, TP_all r10 (fun p hp => cp p (by omega)) (fun o ho => bo o (by omega)) (b35 57 (by decide))⟩, SR_oth sr5 (fun p _ hp => cp p hp) (fun o ho => bo o (by omega)) (fun q hq => b35 q (by omega)), hΦ w A _ (bo 36 (by decide)) (b35 7 (by decide)) t5, ?_, ?_, ?_, ?_, ?_, ?_⟩
  · obtain ⟨v1, v2, v3, v4, v5, v6⟩ := r2
    obtain ⟨x1, x2, x3, x4, x5, x6, x7, x8⟩ := v1
    refine ⟨?_, ?_, ?_, ?_, ?_, fun n' n1' n2' => ?_⟩
    · unfold JF
      rw [c20 8 (by decide), c20 10 (by decide), c20 11 (by decide), c20 12 (by decide), c20 13 (by decide), c20 15 (by decide), c20 16 (by decide), up2_s, up2_s, b35 6 (by decide), b35 33 (by decide), b35 46 (by decide), b35 28 (by decide), b35 29 (by decide), b35 31 (by decide), b35 32 (by decide)]
      exact ⟨x1, x2, x3, x4, x5, rfl, x7, x8⟩
    · rw [b35 35 (by decide), b35 28 (by decide)]
      exact v2
    · unfold JO at v3 ⊢
      rw [up2_s, b35 6 (by decide), b35 7 (by decide), b35 28 (by decide), b35 29 (by decide), b35 31 (by decide), b35 32 (by decide), b35 35 (by decide)]
      omega
    · unfold JG
      rw [b35 6 (by decide), b35 28 (by decide), b35 33 (by decide), b35 35 (by decide), b35 46 (by decide)]
      exact v4
    · rw [c20 9 (by decide), b35 28 (by decide), b35 35 (by decide)]
      exact v5
    · have t := v6 n' n1' n2'
      have nb : ∀ c, nbA (up2 A 35 30 n) c = nbA A c := fun c => by unfold nbA; rw [b35 6 (by decide)]
      unfold TR at t ⊢
      rw [b35 35 (by decide), b35 6 (by decide), b35 7 (by decide)]
      exact ⟨t.1, fun i hi => by rw [nb]; exact t.2.1 i hi, fun i hi => by rw [nb]; exact t.2.2.1 i hi, t.2.2.2⟩
  · unfold JL
    rw [b35 6 (by decide), b35 7 (by decide)]
    exact r3
  · exact LGd_dk r5 (fun q hq => b35 q (by omega)) (fun k i _ _ x => ⟨NV_sD sd x, cur_sD sd⟩)
  · have := AV_sD sd r6
    unfold HDd
    rw [b35 35 (by decide), b35 28 (by decide)]
    exact this
  · have := AV_sD sd r7
    unfold RG
    rw [b35 6 (by decide), b35 7 (by decide), b35 34 (by decide)]
    exact this
  · unfold SPJ
    rw [c20 17 (by decide), b35 34 (by decide)]
    exact r8
  · obtain ⟨m1, m2, m3, m4⟩ := r9
    unfold MI
    rw [cp 10 (by decide), cp 11 (by decide), b35 6 (by decide), b35 7 (by decide), b35 34 (by decide)]
    exact ⟨ci_cong m1 (fun q _ => by rw [cp 10 (by decide)]) (cp 15 (by decide)) (cp 16 (by decide)) (cp 17 (by decide)), m2, m3, m4⟩
  · intro k i k1 k2
    rw [b35 28 (by decide), b35 35 (by decide)] at k1
    rw [wb, cur_sD sd]
    exact lc5 k i k1 k2
  · unfold HDc
    rw [cur_sD sd, b35 31 (by decide)]
    exact hc5
  · rw [cp 100 (by decide), b35 28 (by decide), b35 35 (by decide)]
    exact gh5
  · rw [b35 18 (by decide)]
    exact on5
  · rw [b35 28 (by decide), b35 35 (by decide)]
    exact nr5
  · rw [bo 46 (by decide)]
    exact z5
theorem dsk_30 (h : dsk A K) : dsk (up2 A 35 30 n) K := by
  have b35 : ∀ q, q ≠ 30 → up2 A 35 30 n 35 q = A 35 q := fun q hq => up2_j hq
  have bo : ∀ o, o ≠ 35 → up2 A 35 30 n o = A o := fun o ho => up2_rown ho
  obtain ⟨x1, x2, x3, x4, x5, x6, x7⟩ := h
  refine ⟨by rw [b35 6 (by decide)]; exact x1, by rw [b35 7 (by decide)]; exact x2, by rw [b35 15 (by decide)]; exact x3, by rw [b35 16 (by decide)]; exact x4, by rw [b35 20 (by decide)]; exact x5, by rw [b35 21 (by decide)]; exact x6, fun i hi => ?_⟩
  rw [b35 16 (by decide)] at hi
  unfold slOk
  rw [b35 15 (by decide), bo 42 (by decide), bo 43 (by decide), b35 6 (by decide), b35 7 (by decide)]
  exact x7 i hi
theorem dsk_le {K' : Nat} (h : dsk A K') (hk : K ≤ K') : dsk A K := by
  obtain ⟨x1, x2, x3, x4, x5, x6, x7⟩ := h
  exact ⟨x1, x2, x3, x4, by omega, by omega, x7⟩
/-- the touched cells of one transaction -/
theorem ap41 (hΦ : goodT Φ) (hok : ∀ w A, Φ w A → okT A) (hu : 3000 ≤ fu) {rc7 : Nat → Int32 → Int32 → Option Nat → tM → Option ((Int32 ⊕ Unit) × tM)} {x1 : Int32} {cnt : Nat} {Q : Int32 ⊕ Unit → tM → Prop} : ∀ j i f σ C D A, CM b0 σ C D → RO Φ bi sp w C D A J → dsk A (K + j) → n = A 35 30 + 1 → n ≤ A 35 29 → i + j = dT D 8 n → j < f →
    (∀ τ C' D' B, ap1 J (A 35 30 - A 35 35) (A 35 29 - A 35 30 - 1) j i A = .inl B → CM b0 τ C' D' → RO Φ bi sp w C' D' B J → JP D D' → EP D D' 0 0 → dsk B K → (∀ q, q ≤ 14 ∨ 22 ≤ q → B 35 q = A 35 q) → wp (FC b0) τ (J_X1_applySome_105 b0 fu rc7 (b0 + 20) x1 (nI (cnt + 1)) (some (dT D 0 n)) (sI τ (b0 + 20) 14 (nI n))) Q) →
    (∀ τ C' D' B, ap1 J (A 35 30 - A 35 35) (A 35 29 - A 35 30 - 1) j i A = .inr B → CM b0 τ C' D' → OF Φ bi sp C' D' B J → EP D D' 6 1 → Q (.inr ()) τ) →
    wp (FC b0) σ (L_X1_applySome_41 b0 fu rc7 f (b0 + 20) x1 (nI cnt) (some (dT D 0 n)) (nI i) σ) Q := by
  intro j
  induction j with
  | zero =>
    intro i f σ C D A h hR hd hn hdu hi hf K1 K2
    obtain ⟨f, rfl⟩ : ∃ q, f = q + 1 := ⟨f - 1, by omega⟩
    have L := h.lay
    have jr := hR.1.2.1
    have jo := jr.2.2.1
    unfold JO at jo
    have g := CG_of (z := mo0) h
    obtain ⟨pl, t⟩ := g.tx (n := n) (by rw [jr.2.1.1]; omega) (by rw [jr.2.1.2]; omega)
    obtain ⟨b8, b9, b2, b3, b4⟩ := tx_8 t
    unfold L_X1_applySome_41
    rw [ltb_def, omt_some, ckO_tx t, osm_p t.2.2.2.1.1, (ckR_tx t).1, if_l b8 (by omega), if_pos (by omega), ckC_20 L, ltb_def, ofi, t.2.2.1.1]
    exact K1 σ C D A rfl h hR (JP_r D) (EP_r D) (dsk_le hd (by omega)) (fun _ _ => rfl)
  | succ j ih =>
    intro i f σ C D A h hR hd hn hdu hi hf K1 K2
    obtain ⟨f, rfl⟩ : ∃ q, f = q + 1 := ⟨f - 1, by omega⟩
    have L := h.lay
    have jr := hR.1.2.1
    have jo := jr.2.2.1
    have jo0 := jo
    unfold JO at jo
    have g := CG_of (z := mo0) h
    have nl : dL D < n := by rw [jr.2.1.1]; omega
    have nh : n ≤ dH D := by rw [jr.2.1.2]; omega
    obtain ⟨pl, t⟩ := g.tx nl nh
    have tr := jr.2.2.2.2.2 n nl nh
    obtain ⟨b8, b9, b2, b3, b4⟩ := tx_8 t
    obtain ⟨⟨v1, v2⟩, -⟩ := t.2.2.2.2.2.1 i (by omega)
    obtain ⟨c1, c2, c3⟩ := tr.2.1 i (by omega)
    have e13 : C 20 13 = A 35 29 := jr.1.2.2.2.2.1
    have hk : A 35 30 - A 35 35 = n - A 35 35 - 1 := by omega
    have irl := irl_c (fu := fu) (c := dX D 0 n i) g (by omega) (by rw [e13, jr.2.1.2]; omega) (fun n' a b => by have := (jr.2.2.2.2.2 n' a b).2.2.2.2.2.2.2.2; omega) nl (by rw [e13]; exact hdu) (by rw [jr.2.1.2]; omega)
    have gr := grv_eq (c := dX D 0 n i) jr (by omega) hdu
    have go : ∀ τ C1 D1 A1, ap1 J (A 35 30 - A 35 35) (A 35 29 - A 35 30 - 1) (j + 1) i A = ap1 J (A1 35 30 - A1 35 35) (A1 35 29 - A1 35 30 - 1) j (i + 1) A1 → CM b0 τ C1 D1 → RO Φ bi sp w C1 D1 A1 J → JP D D1 → EP D D1 0 0 → dsk A1 (K + j) → (∀ q, q ≤ 14 ∨ 22 ≤ q → A1 35 q = A 35 q) → wp (FC b0) τ (J_X1_applySome_88 b0 fu rc7 (L_X1_applySome_41 b0 fu rc7 f) (b0 + 20) x1 (nI cnt) (some (dT D 0 n)) (nI i) τ) Q := by
      intro τ C1 D1 A1 ea m1 m2 m3 m4 m5 m6
      obtain ⟨⟨j1, j2, j3, j4, j5⟩, -⟩ := JP_KW m3
      unfold J_X1_applySome_88
      rw [ltb_def, ofi, ← j2]
      refine ih (i + 1) f τ C1 D1 A1 m1 m2 m5 (by rw [m6 30 (by omega)]; exact hn) (by rw [m6 29 (by omega)]; exact hdu) (by rw [j2]; omega) (by omega) (fun τ2 C2 D2 B2 k1 k2 k3 k4 k5 k6 k7 => ?_) (fun τ2 C2 D2 B2 k1 k2 k3 k4 => ?_)
      · rw [j2]
        exact K1 τ2 C2 D2 B2 (ea.trans k1) k2 k3 (JP_t m3 k4) (EP_z m4 k5) k6 (fun q hq => by rw [k7 q hq, m6 q hq])
      · exact K2 τ2 C2 D2 B2 (ea.trans k1) k2 k3 (EP_z m4 k4)
    unfold L_X1_applySome_41
    rw [ltb_def, omt_some, ckO_tx t, osm_p t.2.2.2.1.1, (ckR_tx t).1, if_l b8 (by omega), if_neg (by omega), osm_p t.2.2.2.1.1, (ckR_tx t).1, ckI_at (by omega) b8, ckC_20 L, nI_cl (by omega), v1, irl, cll_some]
    have a1 : ap1 J (A 35 30 - A 35 35) (A 35 29 - A 35 30 - 1) (j + 1) i A = if grv J (nbA A (dX D 0 n i)) (n - A 35 35 - 1 + 1) (A 35 29 - n) then ap1 J (A 35 30 - A 35 35) (A 35 29 - A 35 30 - 1) j (i + 1) A else bX (verX A (nbA A (dX D 0 n i)) 0 0) (ap1 J (A 35 30 - A 35 35) (A 35 29 - A 35 30 - 1) j (i + 1)) := by
      show (if grv J (J.1 44 (J.1 41 (A 35 30 - A 35 35) + i)) (A 35 30 - A 35 35 + 1) (A 35 29 - A 35 30 - 1) then _ else bX (verX A (J.1 44 (J.1 41 (A 35 30 - A 35 35) + i)) 0 0) _) = _
      rw [hk, c1, show A 35 29 - A 35 30 - 1 = A 35 29 - n by omega]
    by_cases q : sr (fun n' => rvD D n' (dX D 0 n i)) (n + 1) (C 20 13 - n) < C 20 13 + 1
    · rw [gr, if_pos (decide_eq_true q)] at a1
      rw [show (if sr (fun n' => rvD D n' (dX D 0 n i)) (n + 1) (C 20 13 - n) < C 20 13 + 1 then 1 else 0) = 1 from if_pos q]
      show wp (FC b0) σ (if nI 1 = nI 0 then _ else _) Q
      rw [if_e (by omega) (by omega), if_neg (by omega)]
      exact go σ C D A a1 h hR (JP_r D) (EP_r D) (dsk_le hd (by omega)) (fun _ _ => rfl)
    · rw [gr, if_neg (by rw [decide_eq_false q]; decide)] at a1
      rw [show (if sr (fun n' => rvD D n' (dX D 0 n i)) (n + 1) (C 20 13 - n) < C 20 13 + 1 then 1 else 0) = 0 from if_neg q]
      show wp (FC b0) σ (if nI 0 = nI 0 then _ else _) Q
      have nbE : nbC C (dX D 0 n i) = nbA A (dX D 0 n i) := by
        unfold nbC nbA
        have := hR.1.2.2.2.2.2.2.2.2.1.2.1.2
        rw [this]
        by_cases d : dX D 0 n i < 34
        · rw [if_pos d, if_neg (by omega)]
        · rw [if_neg d, if_pos (by omega)]
      rw [if_pos rfl, ckC_20 L, osm_p (rfC_20_0 L), osm_p (rfC_20_1 L), ckO_tx t, osm_p t.2.2.2.1.1, (ckR_tx t).1, ckI_at (by omega) b8, v1, ckC_10 L, numberOf_c h.ca (by omega), cll_some, nbE, ckC_1 L]
      have nlt : nbA A (dX D 0 n i) < 34 + A 35 6 + A 35 7 := by
        unfold nbA
        split <;> omega
      have pu := put_c (fu := fu) (K := K + j) (b := nbA A (dX D 0 n i)) (wh := 0) (id := 0) h hR.1.1 hd hR.2.2.2.2.2.2.2.2 nlt (by show 0 < 2147483648; omega) hu
      have tg : tgA bi sp 0 0 = 0 := rfl
      rw [tg] at pu
      show wp (FC b0) σ (clx (m_X0_put b0 fu (b0 + 1) (nI (nbA A (dX D 0 n i))) (nI 0) σ) _) Q
      obtain ⟨o1, o2, o3⟩ := nb_out (A := A) c2
      by_cases e2 : A 35 19 = 1
      · have ex2 : verX A (nbA A (dX D 0 n i)) 0 0 = .inr (powA A) := if_pos e2
        rw [ex2] at pu a1
        refine wp_clx (FC_good b0) pu (fun v ρ q => by cases q.1) (fun ρ q => ?_)
        obtain ⟨-, C7, D7, t1, t2, t3, t4, t5⟩ := q
        exact K2 ρ C7 D7 (powA A) a1 t1 (OF_pow hΦ hok hR.1 hR.2.2.2.2.2.2.2.1 t2 t3 t4 hR.2.2.2.2.2.2.2.2) t5
      · have ex2 : verX A (nbA A (dX D 0 n i)) 0 0 = .inl (verA A (nbA A (dX D 0 n i)) 0 0) := if_neg e2
        rw [ex2] at pu a1
        refine wp_clx (FC_good b0) pu (fun v ρ q => ?_) (fun ρ q => by cases q.1)
        obtain ⟨-, C7, D7, t1, t2, t3, t4, t5⟩ := q
        have pn : pnd 0 (nxS A) = 256 := rfl
        rw [pn] at t2
        have kv := dk_ver (A := A) (b := nbA A (dX D 0 n i)) (wh := 0) (id := 0)
        have ev : ∀ q, q ≤ 14 ∨ 22 ≤ q → verA A (nbA A (dX D 0 n i)) 0 0 35 q = A 35 q := fun q hq => kv.2 q (by omega) (by omega) (by omega) (by omega) (by omega) (by omega)
        have a2 : ap1 J (A 35 30 - A 35 35) (A 35 29 - A 35 30 - 1) (j + 1) i A = ap1 J (A 35 30 - A 35 35) (A 35 29 - A 35 30 - 1) j (i + 1) (verA A (nbA A (dX D 0 n i)) 0 0) := a1
        refine go ρ C7 D7 _ (by rw [a2, ev 30 (by omega), ev 35 (by omega), ev 29 (by omega)]) t1 (RO_ver hΦ hok hR hd t2 t3 t4 o1 (fun k i' _ _ => by have := whB_in (k := k) (i := i') jo0; omega) o3 (fun e => by cases e) (fun e => by cases e)) t4 t5 (dsk_ver hd nlt (fun e => by cases e)) ev
end APS
