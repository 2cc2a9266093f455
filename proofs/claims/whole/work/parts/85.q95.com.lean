/-! ===== PURE: memory changes, the journal and the disk don't ===== -/
section COM
variable {Φ : tPh} {b0 fu : Nat} {σ τ : tM} {bi bi' sp : Nat → Nat} {w : Nat → Nat × Nat} {C C' C1 A B : tS} {D : tD} {J : tJ} {V W : Nat → Nat} {n m k r to en : Nat} {s : Nat → Nat}
/-- births are only added -/
theorem pv_ext (hb : ∀ r, r < 2000 → us A r → bi (se A r) ≠ 0) (he : ∀ x, bi x ≠ 0 → bi' x = bi x) {x : Nat} (hx : x = 0 ∨ ∃ r, x = r + 1 ∧ r < 2000 ∧ us A r) : pv bi' A x = pv bi A x := by
  rcases hx with rfl | ⟨r, rfl, h1, h2⟩
  · unfold pv
    rw [if_pos rfl, if_pos rfl]
  · rw [pv_s, pv_s, he _ (hb r h1 h2)]
theorem slo_us (hT : TI w A) {n s : Nat} (hn : n < 64) (hs : vs s) : slo A n s = 0 ∨ ∃ r, slo A n s = r + 1 ∧ r < 2000 ∧ us A r := by
  by_cases c : slo A n s = 0
  · exact Or.inl c
  · obtain ⟨r, hr⟩ : ∃ r, slo A n s = r + 1 := ⟨slo A n s - 1, by omega⟩
    obtain ⟨a1, a2, -⟩ := hT.2.1 n s r hn hs hr
    exact Or.inr ⟨r, hr, a1, a2⟩
/-- a node's own pointers and a table's are places -/
theorem ndu0 (hT : TI w A) {n i : Nat} (hn : n < 64) (hi : i < 10) : nd A n (85 + i) = 0 ∨ ∃ r, nd A n (85 + i) = r + 1 ∧ r < 2000 ∧ us A r := by
  have : ∃ s, vs s ∧ slo A n s = nd A n (85 + i) := by
    by_cases c : i < 8
    · refine ⟨i, Or.inl (by omega), ?_⟩
      unfold slo hasA
      rw [if_neg (by omega), if_neg (by omega), if_neg (by omega), if_pos c]
    · by_cases d : i = 8
      · subst d
        exact ⟨2000, by unfold vs; omega, rfl⟩
      · have : i = 9 := by omega
        subst this
        exact ⟨2001, by unfold vs; omega, rfl⟩
  obtain ⟨s, h1, h2⟩ := this
  rw [← h2]
  exact slo_us hT hn h1
theorem ptu0 (hT : TI w A) {r k : Nat} (hr : r < 2000) (hu : us A r) (h2 : 2000 ≤ (w r).2) (hk : k < 32) : pt A r k = 0 ∨ ∃ x, pt A r k = x + 1 ∧ x < 2000 ∧ us A x := by
  obtain ⟨-, a1, -, a2, a3⟩ := hT.1 r hr hu
  have : ∃ s, vs s ∧ slo A (w r).1 s = pt A r k := by
    by_cases c : (w r).2 = 2001
    · refine ⟨2100 + k, by unfold vs; omega, ?_⟩
      rw [c] at a3
      have a3 : nd A (w r).1 94 = r + 1 := a3
      unfold slo
      rw [if_neg (by omega), if_neg (by omega), if_pos (by omega), a3, if_neg (by omega), Nat.add_sub_cancel, show 2100 + k - 2100 = k by omega]
    · have t : isTb (w r).2 := by
        unfold vs at a2
        unfold isTb
        omega
      refine ⟨tbs (w r).2 + k, Or.inl (tbs_lt t hk), ?_⟩
      rw [slo_tb t hk, a3, if_neg (by omega), Nat.add_sub_cancel]
  obtain ⟨s, h1, h2⟩ := this
  rw [← h2]
  exact slo_us hT a1 h1
theorem MR_ext (hT : TI w A) (hb : ∀ r, r < 2000 → us A r → bi (se A r) ≠ 0) (he : ∀ x, bi x ≠ 0 → bi' x = bi x) (h : MR bi w W A) : MR bi' w W A := by
  obtain ⟨m1, m2, m3, m4⟩ := h
  refine ⟨m1, m2, fun n hn => ?_, fun r hr hu => ?_⟩
  · obtain ⟨a1, a2, a3, a4⟩ := m3 n hn
    exact ⟨a1, a2, fun c i hi => by rw [a3 c i hi, pv_ext hb he (ndu0 hT hn hi)], a4⟩
  · obtain ⟨b1, b2⟩ := m4 r hr hu
    exact ⟨fun c k hk => by rw [b1 c k hk, pv_ext hb he (ptu0 hT hr hu c hk)], b2⟩
theorem DR_ext (h : DR bi sp C D A) (hG : RG bi A) (he : ∀ x, bi x ≠ 0 → bi' x = bi x) : DR bi' sp C D A := by
  obtain ⟨r1, r2, r3, r4, r5⟩ := h
  have tg : ∀ wh id, (wh = 3 → bi id ≠ 0) → (wh = 0 ∨ wh = 1 ∨ wh = 2 ∨ wh = 3) → tgA bi' sp wh id = tgA bi sp wh id := fun wh id a b => by
    unfold tgA
    by_cases c : wh = 3
    · rw [he _ (a c)]
    · by_cases c0 : wh = 0
      · rw [if_pos c0, if_pos c0]
      · by_cases c1 : wh = 1
        · rw [if_neg c0, if_neg c0, if_pos c1, if_pos c1]
        · rw [if_neg c0, if_neg c0, if_neg c1, if_neg c1, if_pos (by omega), if_pos (by omega)]
  have rg : ∀ b wh, rgP (A 35 6) b wh → (wh = 0 ∨ wh = 1 ∨ wh = 2 ∨ wh = 3) := fun b wh x => by
    unfold rgP at x
    omega
  refine ⟨r1, fun i hi hx => ?_, fun hx => by omega, fun b hb => ?_, r5⟩
  · obtain ⟨s1, s2, s3, s4⟩ := r2 i hi hx
    obtain ⟨g1, g2, g3⟩ := hG.2 i hi
    exact ⟨s1, s2.trans (tg _ _ (fun e => (g3 e).1) (rg _ _ g1)).symm, s3, s4⟩
  · obtain ⟨s1, s2⟩ := r4 b hb
    obtain ⟨g1, g2, g3⟩ := hG.1 b (by omega)
    exact ⟨by rw [s1, tg _ _ (fun e => (g3 e).1) (rg _ _ g1)], s2⟩
theorem CO_mem (hΦ : goodT Φ) (hok : ∀ w A, Φ w A → okT A) (hTI : ∀ w A, Φ w A → TI w A) (h : CO Φ bi sp C D A J) (hc : ∀ p, p = 1 ∨ p = 2 ∨ p = 4 ∨ p = 5 ∨ p = 6 ∨ p = 7 ∨ p = 9 ∨ p = 20 → C' p = C p) (he : ∀ x, bi x ≠ 0 → bi' x = bi x) (ha : ∀ o, 39 ≤ o → o ≤ 46 → B o = A o) (hf : ∀ q, q ≠ 0 → q ≠ 34 → q ≤ 50 → B 35 q = A 35 q) (h34 : A 35 34 ≤ B 35 34) (hM : MI bi' C' B) (hP : TP C' B) : CO Φ bi' sp C' D B J := by
  obtain ⟨r1, r2, r3, r4, r5, r6, r7, r8, r9, r10⟩ := h
  have jo := r2.2.2.1
  unfold JO at jo
  have sd : sD A B := ⟨ha 39 (by decide) (by decide), ha 40 (by decide) (by decide), ha 42 (by decide) (by decide), ha 43 (by decide) (by decide), ha 44 (by decide) (by decide), hf 15 (by decide) (by decide) (by decide), hf 16 (by decide) (by decide) (by decide)⟩
  have R1 : DR bi sp C' D B := DR_all r1 (fun p hp => hc p (by omega)) rfl rfl (fun _ _ _ _ _ _ => rfl) (fun o a b => ha o a b) (fun q hq => hf q (by omega) (by omega) (by omega))
  have R7 : RG bi B := by
    have := AV_sD sd r7
    unfold RG
    rw [hf 6 (by decide) (by decide) (by decide), hf 7 (by decide) (by decide) (by decide)]
    exact AV_mono this (fun b w i z => ⟨z.1, fun e => Nat.le_trans (z.2.1 e) h34, z.2.2⟩)
  refine ⟨DR_ext R1 R7 he, JR_all r2 (fun _ => by rw [hc 20 (by omega)]) ⟨rfl, rfl, rfl, rfl⟩ (fun q hq => hf q (by omega) (by omega) (by omega)), ?_, ?_, LGd_dk r5 (fun q hq => hf q (by omega) (by omega) (by omega)) (fun k i _ _ x => ⟨NV_sD sd x, cur_sD sd⟩), ?_, ?_, ?_, hM, hP⟩
  · unfold JL
    rw [hf 6 (by decide) (by decide) (by decide), hf 7 (by decide) (by decide) (by decide)]
    exact r3
  · have ct := CT_all (B := B) hΦ r4 (fun q hq => hf q (by omega) (by omega) (by omega)) (fun _ _ _ _ => rfl) hok (by omega)
    intro n n1 n2
    obtain ⟨s, w, k1, k2, k3, k4⟩ := ct n n1 n2
    exact ⟨s, w, k1, MR_ext (hTI w _ k3) k4 he k2, k3, fun r hr hu => by rw [he _ (k4 r hr hu)]; exact k4 r hr hu⟩
  · have := AV_sD sd r6
    unfold HDd
    rw [hf 35 (by decide) (by decide) (by decide), hf 28 (by decide) (by decide) (by decide)]
    exact this
  · unfold RG
    exact AV_mono R7 (fun b w i z => ⟨z.1, z.2.1, fun e => by rw [he _ (z.2.2 e).1]; exact z.2.2 e⟩)
  · obtain ⟨s1, s2, s3, s4⟩ := r8
    unfold SPJ
    rw [hc 20 (by omega)]
    exact ⟨s1, fun x hx => s2 x (by omega), s3, by omega⟩
/-- memory gives what stays of it -/
theorem MI_of (h : SR bi w C A) : MI bi C A := ⟨h.rk.1, ⟨h.zm.1.1, h.zm.1.2.1⟩, ⟨h.bj.1, h.bj.2.1, h.bj.2.2.1⟩, h.mr.1⟩
/-- a call that changes the tree in memory alone -/
theorem RO_mem {w' : Nat → Nat × Nat} (hΦ : goodT Φ) (hok : ∀ w A, Φ w A → okT A) (hTI : ∀ w A, Φ w A → TI w A) (h : RO Φ bi sp w C D A J) (hc : ∀ p, p = 1 ∨ p = 2 ∨ p = 4 ∨ p = 5 ∨ p = 6 ∨ p = 7 ∨ p = 9 ∨ p = 20 ∨ p = 100 → C' p = C p) (he : ∀ x, bi x ≠ 0 → bi' x = bi x) (ha : ∀ o, 39 ≤ o → o ≤ 46 → B o = A o) (hf : ∀ q, q ≠ 0 → q ≠ 34 → q ≤ 50 → B 35 q = A 35 q) (h34 : A 35 34 ≤ B 35 34) (hS : SR bi' w' C' B) (hPh : Φ w' B) (hP : TP C' B) : RO Φ bi' sp w' C' D B J := by
  obtain ⟨hCO, hSR, hT, hLc, hHc, hgh, hon, hnr, h46⟩ := h
  have sd : sD A B := ⟨ha 39 (by decide) (by decide), ha 40 (by decide) (by decide), ha 42 (by decide) (by decide), ha 43 (by decide) (by decide), ha 44 (by decide) (by decide), hf 15 (by decide) (by decide) (by decide), hf 16 (by decide) (by decide) (by decide)⟩
  refine ⟨CO_mem hΦ hok hTI hCO (fun p hp => hc p (by omega)) he ha hf h34 (MI_of hS) hP, hS, hPh, fun k i k1 k2 => ?_, ?_, ?_, ?_, ?_, ?_⟩
  · rw [hf 28 (by decide) (by decide) (by decide), hf 35 (by decide) (by decide) (by decide)] at k1
    have wv : whB B J k i = whB A J k i := by unfold whB; rw [hf 6 (by decide) (by decide) (by decide)]
    rw [wv, cur_sD sd]
    exact hLc k i k1 k2
  · unfold HDc
    rw [cur_sD sd, hf 31 (by decide) (by decide) (by decide)]
    exact hHc
  · rw [hf 28 (by decide) (by decide) (by decide), hf 35 (by decide) (by decide) (by decide), hc 100 (by omega)]
    exact hgh
  · rw [hf 18 (by decide) (by decide) (by decide)]
    exact hon
  · rw [hf 28 (by decide) (by decide) (by decide), hf 35 (by decide) (by decide) (by decide)]
    exact hnr
  · rw [ha 46 (by decide) (by decide)]
    exact h46
/-- behind the loader -/
theorem RO_load (hΦ : goodT Φ) (hok : ∀ w A, Φ w A → okT A) (hTI : ∀ w A, Φ w A → TI w A) (h : CO Φ bi sp C D (ud0 B to en s) J) (hM : MR bi w (mW D 0) (ud0 B to en s)) (hPh : Φ w (ud0 B to en s)) (hb : ∀ r, r < 2000 → us (ud0 B to en s) r → bi (se (ud0 B to en s) r) ≠ 0) (h16 : C 10 16 = to + 1) (h19 : ∀ n, n < 64 → C 19 n = 0) (hon : B 35 18 = 1) (h46 : ∀ b, B 46 b = 0) (hJ : J.2.1 = 0) (hv : AV (fun b w i => b = 0 → w = 1 ∧ i = to) B) (hE : LE bi w (ud4 B to en s) C D C1) (hW : ∀ q, q < 65088 → W q = mW D 0 q) : RO Φ bi sp w (upR (fl 32 0 0 16 C1) 100 W) D (ud4 B to en s) J := by
  obtain ⟨u1, u2, u3, u4, u5, u6⟩ := ud4_f (B := B) (to := to) (en := en) (s := s)
  obtain ⟨v1, v2, v3, ⟨v28, v29, v30, v31, v32, v35⟩, v33, v46⟩ := ud0_f (B := B) (to := to) (en := en) (s := s)
  have jo := h.2.1.2.2.1
  unfold JO at jo
  have U35 := u1 35 (by decide) (by decide) (by decide) (by decide) (by decide) (by decide) (by decide)
  have U36 := u1 36 (by decide) (by decide) (by decide) (by decide) (by decide) (by decide) (by decide)
  have PU : Φ w (ud4 B to en s) := hΦ w _ _ U36 (by rw [U35]) hPh
  have us_e : ∀ r, us (ud4 B to en s) r ↔ us (ud0 B to en s) r := fun r => by unfold us; rw [U36]
  have se_e : ∀ r, se (ud4 B to en s) r = se (ud0 B to en s) r := fun r => by unfold se; rw [U36]
  have MU : MR bi w (mW D 0) (ud4 B to en s) := by
    unfold MR NW BW EW us nd pt eZ pv se at hM ⊢
    rw [U36]
    exact hM
  have B7 : ud4 B to en s 35 7 = B 35 7 := by rw [U35, v3 7 (by omega)]
  have nm : NM (ud4 B to en s) := ⟨u2, u3, fun r hr => u4 r (by rw [← B7]; exact hr), u5, fun r j hr hj => u6 r j (by rw [← B7]; exact hr) hj⟩
  have cop := fun p (a : p ≠ 47) (b : p ≠ 48) (c : p ≠ 49) (d : p ≠ 50) (e : p ≠ 51) (f : p ≠ 52) (g : p ≠ 71) => u1 p a b c d e f g
  have e7 : 34 ≤ C 10 7 := h.2.2.2.2.2.2.2.2.1.1.1.1
  generalize ud4 B to en s = U at *
  have e35 : ∀ q, U 35 q = ud0 B to en s 35 q := fun q => by rw [U35]
  have DRU : DR bi sp C D U := DR_all h.1 (fun _ _ => rfl) rfl rfl (fun _ _ _ _ _ _ => rfl) (fun o a b => cop o (by omega) (by omega) (by omega) (by omega) (by omega) (by omega) (by omega)) (fun q _ => e35 q)
  have sd : sD (ud0 B to en s) U := ⟨cop 39 (by decide) (by decide) (by decide) (by decide) (by decide) (by decide) (by decide), cop 40 (by decide) (by decide) (by decide) (by decide) (by decide) (by decide) (by decide), cop 42 (by decide) (by decide) (by decide) (by decide) (by decide) (by decide) (by decide), cop 43 (by decide) (by decide) (by decide) (by decide) (by decide) (by decide) (by decide), cop 44 (by decide) (by decide) (by decide) (by decide) (by decide) (by decide) (by decide), e35 15, e35 16⟩
  have RGU : RG bi U := by
    have := AV_sD sd h.2.2.2.2.2.2.1
    unfold RG
    rw [e35 6, e35 7, e35 34]
    exact this
  have MIU : MI bi C U := by
    have := h.2.2.2.2.2.2.2.2.1
    unfold MI at this ⊢
    rw [e35 6, e35 7, e35 34]
    exact this
  have SRU : SR bi w (upR (fl 32 0 0 16 C1) 100 W) U := SR_load MU (hTI w U PU) (hok w U PU) (fun r hr hu => by rw [se_e]; exact hb r hr ((us_e r).mp hu)) DRU RGU MIU nm (by rw [e35 7, e35 6]; omega) (by rw [h16, e35 28, v28]) (by rw [e35 28]; omega) h19 hE hW
  obtain ⟨C0, ⟨p1, p2, p3, p4⟩, l1, l2, l3⟩ := hE
  obtain ⟨f1, f2, f3⟩ := rd0_f (C := ldM D 34 C)
  have cc : ∀ p, p ≠ 10 → p ≠ 11 → p ≠ 12 → p ≠ 13 → p ≠ 14 → p ≠ 15 → p ≠ 16 → p ≠ 17 → p ≠ 32 → p ≠ 100 → upR (fl 32 0 0 16 C1) 100 W p = C p := fun p a b c d e f g i j k => by
    rw [upR_nn k, fl_row j, l1 p b d e, p1 p c a, f1 p a f g i]
    funext q
    unfold ldM
    rw [if_neg (fun x => b x.1)]
  have cu0 : cur U 0 = (1, to) := by
    have a0 := AV_sD (B := ud0 B to en s) (A := B) ⟨v1 39 (by decide) (by decide), v1 40 (by decide) (by decide), v1 42 (by decide) (by decide), v1 43 (by decide) (by decide), v1 44 (by decide) (by decide), v3 15 (by omega), v3 16 (by omega)⟩ hv
    have a1 := AV_sD sd a0
    have := cur_AV a1 (b := 0) (by decide)
    have := this rfl
    exact Prod.ext this.1 this.2
  refine ⟨CO_mem hΦ hok hTI h (fun p hp => cc p (by omega) (by omega) (by omega) (by omega) (by omega) (by omega) (by omega) (by omega) (by omega) (by omega)) (fun _ _ => rfl) (fun o a b => cop o (by omega) (by omega) (by omega) (by omega) (by omega) (by omega) (by omega)) (fun q _ _ _ => e35 q) (by rw [e35 34]; exact Nat.le_refl _) (MI_of SRU) (TP_all h.2.2.2.2.2.2.2.2.2 (fun p hp => cc p (by omega) (by omega) (by omega) (by omega) (by omega) (by omega) (by omega) (by omega) (by omega) (by omega)) (fun o ho => cop o (by omega) (by omega) (by omega) (by omega) (by omega) (by omega) (by omega)) (e35 57)), SRU, PU, fun k i k1 _ => ?_, Or.inl ?_, fun q hq => ?_, ?_, ?_, ?_⟩
  · rw [e35 28, e35 35, v28, v35] at k1
    omega
  · rw [cu0, e35 31, v31]
  · rw [upR_ss, e35 28, e35 35, v28, v35, Nat.sub_self]
    exact hW q hq
  · rw [e35 18, v3 18 (by omega)]
    exact hon
  · rw [hJ, e35 28, e35 35, v28, v35, Nat.sub_self]
  · rw [cop 46 (by decide) (by decide) (by decide) (by decide) (by decide) (by decide) (by decide), v1 46 (by decide) (by decide)]
    exact h46
end COM
