/-! ===== PURE: a group posted: its blocks, in both ===== -/
section POT
variable {Φ : tPh} {b0 fu : Nat} {σ τ : tM} {bi sp : Nat → Nat} {w : Nat → Nat × Nat} {C C' : tS} {D D' : tD} {A B : tS} {J J' : tJ} {K n m k sz un j : Nat}
theorem PG_ver (hΦ : goodT Φ) (hok : ∀ w A, Φ w A → okT A) (h : PG Φ bi sp w C D A J sz j) (hj : j < sz) (hd : dsk A K) (hR : DR bi sp C' D' (verA A (34 + (A 35 33 + j) % A 35 6) 2 (A 35 34))) (hc : cO C C') (hJ : JP D D') : PG Φ bi sp w C' D' (verA A (34 + (A 35 33 + j) % A 35 6) 2 (A 35 34)) J sz (j + 1) := by
  obtain ⟨hCO, hSR, hT, hLc, hHc, hgh, hon, hnr, h46, ⟨p1, p2, p3, p4, p5⟩, p6, p7, p8⟩ := h
  have jo := hCO.2.1.2.2.1
  have jg := hCO.2.1.2.2.2.1
  have ju := hCO.2.1.2.1
  unfold JO at jo
  generalize hb : 34 + (A 35 33 + j) % A 35 6 = b at *
  have kv := dk_ver (A := A) (b := b) (wh := 2) (id := A 35 34)
  have ev : ∀ q, q ≤ 14 ∨ 22 ≤ q → verA A b 2 (A 35 34) 35 q = A 35 q := fun q hq => kv.2 q (by omega) (by omega) (by omega) (by omega) (by omega) (by omega)
  have hn : ∀ k i, k < A 35 28 - A 35 35 → i < J.1 39 k → whB A J k i ≠ b := fun k i k1 k2 => by
    rw [← hb]
    exact ring_ne jg (by omega) k1 k2 (by omega)
  have bl : 34 ≤ b ∧ b < 34 + A 35 6 := by
    rw [← hb]
    have := Nat.mod_lt (A 35 33 + j) (show A 35 6 > 0 by omega)
    omega
  have wv : ∀ k i, whB (verA A b 2 (A 35 34)) J k i = whB A J k i := fun k i => by unfold whB; rw [ev 6 (by omega)]
  refine ⟨CO_ver hΦ hok hCO hd hR hc hJ (fun k i k1 k2 => hn k i (by omega) k2) (fun e => by omega) (Or.inr (Or.inr (Or.inl ⟨bl.1, bl.2, Or.inr rfl⟩))) (fun _ => Nat.le_refl _) (fun e => by cases e), SR_disk hSR hc kv, ?_, ?_, ?_, ?_, ?_, ?_, ?_, ?_, ?_, ?_, ?_⟩
  · exact hΦ w A _ (kv.1 36 (by decide) (by decide)) (ev 7 (by omega)) hT
  · intro k i k1 k2
    rw [ev 28 (by omega), ev 35 (by omega)] at k1
    rw [wv, cur_ver hd, if_neg (fun y => hn k i k1 k2 y.symm)]
    exact hLc k i k1 k2
  · unfold HDc
    rw [cur_ver hd, if_neg (by omega), ev 31 (by omega)]
    exact hHc
  · intro q hq
    have c100 : C' 100 = C 100 := hc 100 (by decide) (by decide) (by decide) (by decide) (by decide) (by decide) (by decide)
    rw [c100, hgh q hq, ev 28 (by omega), ev 35 (by omega), mW_JP hJ (by omega) _ (by rw [ju.1, ju.2]; exact Nat.le_refl _)]
  · rw [verA_35 A b 2 (A 35 34) 18 (by decide) (by decide) (by decide) (by decide)]
    exact hon
  · rw [ev 28 (by omega), ev 35 (by omega)]
    exact hnr
  · intro b'
    rw [verA_o A b 2 (A 35 34) b' (by decide) (by decide)]
    exact h46 b'
  · rw [ev 28 (by omega), ev 35 (by omega), ev 34 (by omega), ev 33 (by omega), ev 6 (by omega)]
    exact ⟨p1, p2, p3, p4, p5⟩
  · rw [ev 34 (by omega), hc 20 (by decide) (by decide) (by decide) (by decide) (by decide) (by decide) (by decide)]
    exact p6
  · intro j' hj'
    rw [ev 33 (by omega), ev 6 (by omega), ev 34 (by omega), cur_ver hd]
    by_cases e : b = 34 + (A 35 33 + j') % A 35 6
    · rw [if_pos e]
    · rw [if_neg e]
      refine p7 j' ?_
      by_cases d : j' = j
      · rw [d] at e
        exact absurd hb.symm e
      · omega
  · rw [ev 33 (by omega), ev 6 (by omega), ev 34 (by omega)]
    exact AV_ver hd (AV_mono p8 (fun b' w i q e1 e2 => by
      obtain ⟨j', a, c⟩ := q e1 e2
      exact ⟨j', by omega, c⟩)) (fun _ _ => ⟨j, by omega, hb.symm⟩)
theorem PG_off (hΦ : goodT Φ) (hok : ∀ w A, Φ w A → okT A) (h : PG Φ bi sp w C D A J sz j) (hj : j < sz) (hR : DR bi sp C' D' (powA A)) (hc : cO C C') (hJ : JP D D') : OF Φ bi sp C' D' (powA A) J := by
  obtain ⟨hCO, hSR, hT, hLc, hHc, hgh, hon, hnr, h46, ⟨p1, p2, p3, p4, p5⟩, p6, p7, p8⟩ := h
  have jo := hCO.2.1.2.2.1
  unfold JO at jo
  have e : ∀ q, q ≤ 14 ∨ 22 ≤ q → powA A 35 q = A 35 q := fun q hq => (dk_pow (A := A)).2 q (by omega) (by omega) (by omega) (by omega) (by omega) (by omega)
  have z : ∀ b, powA A 46 b = 0 := fun b => by
    unfold powA
    rw [fl_at]
    split
    · rfl
    · rw [up2_o (by decide), up2_o (by decide)]
      exact h46 b
  have s := pow_sD (A := A)
  refine ⟨CO_pow hΦ hok hCO hR hc hJ, ?_, Or.inr ⟨?_, j, ?_, ?_⟩, fun b _ => by rw [z]; exact Nat.zero_le _, fun b _ => z b⟩
  · unfold powA
    rw [fl_row (by decide), up2_j (by decide), up2_s]
  · rw [e 28 (by omega), e 35 (by omega)]
    exact hnr
  · rw [e 28 (by omega), e 35 (by omega), p3]
    exact hj
  · rw [e 28 (by omega), e 35 (by omega), p1]
    refine AV_mono (AV_sD s p8) (fun b w i q e1 e2 => ?_)
    obtain ⟨j', a, c⟩ := q e2.1 e2.2
    have wv : whB (powA A) J (A 35 28 - A 35 35) j = 34 + (A 35 33 + j) % A 35 6 := by
      unfold whB
      rw [e 6 (by omega), p2]
    rw [wv, c] at e1
    exact mod_ne (a := A 35 33) (x := j') (y := j) (L := A 35 6) a (by omega) (by omega)
/-- the blocks of a transaction are put -/
theorem pg43 (hΦ : goodT Φ) (hok : ∀ w A, Φ w A → okT A) (hu : 3000 ≤ fu) {Q : Int32 ⊕ Unit → tM → Prop} : ∀ m j f σ C D A, CM b0 σ C D → PG Φ bi sp w C D A J sz j → dsk A (K + m) → j + m = sz → m < f →
    (∀ τ C' D' B, lgX sz j m A = .inl B → CM b0 τ C' D' → PG Φ bi sp w C' D' B J sz sz → JP D D' → cO C C' → EP D D' 0 0 → dsk B K → (∀ q, q ≤ 14 ∨ 22 ≤ q → B 35 q = A 35 q) → dkO A B → wp (FC b0) τ (cll (m_X1_append b0 fu (b0 + 20) (nI sz) τ) (fun _ ρ20 => some (.inl (nI sz), ρ20))) Q) →
    (∀ τ C' D' B, lgX sz j m A = .inr B → CM b0 τ C' D' → OF Φ bi sp C' D' B J → EP D D' 6 1 → Q (.inr ()) τ) →
    wp (FC b0) σ (L_X1_postGroup_43 b0 fu f (b0 + 20) (nI sz) (nI j) σ) Q := by
  intro m
  induction m with
  | zero =>
    intro j f σ C D A h hP hd hj hf K1 K2
    obtain ⟨f, rfl⟩ : ∃ q, f = q + 1 := ⟨f - 1, by omega⟩
    have jo := hP.1.2.1.2.2.1
    unfold JO at jo
    have p4 := hP.2.2.2.2.2.2.2.2.2.1.2.2.2.1
    have ej : j = sz := by omega
    subst ej
    unfold L_X1_postGroup_43
    rw [ltb_def, if_l (by omega) (by omega), if_pos (Nat.le_refl _), ckC_20 h.lay]
    exact K1 σ C D A rfl h hP (JP_r D) (cO_r C) (EP_r D) hd (fun _ _ => rfl) ⟨fun _ _ _ => rfl, fun _ _ _ _ _ _ _ => rfl⟩
  | succ m ih =>
    intro j f σ C D A h hP hd hj hf K1 K2
    obtain ⟨f, rfl⟩ : ∃ q, f = q + 1 := ⟨f - 1, by omega⟩
    have L := h.lay
    have jo := hP.1.2.1.2.2.1
    unfold JO at jo
    have p4 := hP.2.2.2.2.2.2.2.2.2.1.2.2.2.1
    have p6 := hP.2.2.2.2.2.2.2.2.2.2.1
    have jf := hP.1.2.1.1
    have h33 : A 35 33 < A 35 6 := by
      rw [hP.1.2.1.2.2.2.1.2.1]
      exact Nat.mod_lt _ (by omega)
    have wr : wrC C (A 35 33 + j) = (A 35 33 + j) % A 35 6 := by
      unfold wrC
      rw [jf.1, if_pos (by omega)]
    have bl := Nat.mod_lt (A 35 33 + j) (show A 35 6 > 0 by omega)
    unfold L_X1_postGroup_43
    rw [ltb_def, if_l (by omega) (by omega), if_neg (by omega), ckC_20 L, osm_p (rfC_20_0 L), cf_20_10 h.ca, jf.2.1, nI_add, wrap_c h.ca (by omega), cll_some, wr, ckC_20 L, ckC_1 L, cf_20_17 h.ca, p6.1, show (34 : Int32) + nI ((A 35 33 + j) % A 35 6) = nI (34 + (A 35 33 + j) % A 35 6) from nI_add 34 _]
    have spb : sp (A 35 34) < 1000000 := by
      have := hP.1.2.2.2.2.2.2.2.1
      have := this.1 (A 35 34)
      have := hP.1.2.2.2.2.2.2.2.1.2.2.2
      have := p6.2.2
      omega
    have pu := put_c (fu := fu) (K := K + m) (b := 34 + (A 35 33 + j) % A 35 6) (wh := 2) (id := A 35 34) h hP.1.1 hd hP.2.2.2.2.2.2.2.2.1 (by omega) (by show sp (A 35 34) < 2147483648; omega) hu
    have tg : tgA bi sp 2 (A 35 34) = sp (A 35 34) := rfl
    rw [tg] at pu
    have lx : lgX sz j (m + 1) A = bX (verX A (34 + (A 35 33 + j) % A 35 6) 2 (A 35 34)) (lgX sz (j + 1) m) := rfl
    by_cases e2 : A 35 19 = 1
    · have ex2 : verX A (34 + (A 35 33 + j) % A 35 6) 2 (A 35 34) = .inr (powA A) := if_pos e2
      rw [ex2] at pu lx
      refine wp_clx (FC_good b0) pu (fun v ρ q => by cases q.1) (fun ρ q => ?_)
      obtain ⟨-, C7, D7, t1, t2, t3, t4, t5⟩ := q
      exact K2 ρ C7 D7 (powA A) lx t1 (PG_off hΦ hok hP (by omega) t2 t3 t4) t5
    · have ex2 : verX A (34 + (A 35 33 + j) % A 35 6) 2 (A 35 34) = .inl (verA A (34 + (A 35 33 + j) % A 35 6) 2 (A 35 34)) := if_neg e2
      rw [ex2] at pu lx
      refine wp_clx (FC_good b0) pu (fun v ρ q => ?_) (fun ρ q => by cases q.1)
      obtain ⟨-, C7, D7, t1, t2, t3, t4, t5⟩ := q
      have pn : pnd 2 (nxS A) = 256 := rfl
      rw [pn] at t2
      have kv := dk_ver (A := A) (b := 34 + (A 35 33 + j) % A 35 6) (wh := 2) (id := A 35 34)
      have ev : ∀ q, q ≤ 14 ∨ 22 ≤ q → verA A (34 + (A 35 33 + j) % A 35 6) 2 (A 35 34) 35 q = A 35 q := fun q hq => kv.2 q (by omega) (by omega) (by omega) (by omega) (by omega) (by omega)
      have lx2 : lgX sz j (m + 1) A = lgX sz (j + 1) m (verA A (34 + (A 35 33 + j) % A 35 6) 2 (A 35 34)) := lx
      rw [ltb_def, ofi]
      refine ih (j + 1) f ρ C7 D7 _ t1 (PG_ver hΦ hok hP (by omega) hd t2 t3 t4) (dsk_ver hd (by omega) (fun e => by cases e)) (by omega) (by omega) (fun τ C' D' B k1 k2 k3 k4 k5 k6 k7 k8 k9 => ?_) (fun τ C' D' B k1 k2 k3 k4 => ?_)
      · refine K1 τ C' D' B (lx2.trans k1) k2 k3 (JP_t t4 k4) (cO_t t3 k5) (EP_z t5 k6) k7 (fun q hq => by rw [k8 q hq, ev q hq]) ⟨fun o a b => ?_, fun q a b c d e f => ?_⟩
        · rw [k9.1 o a b, kv.1 o a b]
        · rw [k9.2 q a b c d e f, kv.2 q a b c d e f]
      · exact K2 τ C' D' B (lx2.trans k1) k2 k3 (EP_z t5 k4)
end POT
