/-! ===== PURE: power comes back: what was chosen is kept, in both ===== -/
/-- power is back, memory is not -/
def RS (Φ : tPh) (bi sp : Nat → Nat) (C : tS) (D : tD) (A : tS) (J : tJ) : Prop := CO Φ bi sp C D A J ∧ A 35 18 = 1 ∧ UNF A J ∧ ∀ b, A 46 b = 0
section RSS
variable {Φ : tPh} {b0 fu : Nat} {σ τ : tM} {bi sp : Nat → Nat} {w : Nat → Nat × Nat} {C C' X : tS} {D D' D'' : tD} {A B : tS} {J J' : tJ} {K n m k r b id wh e o un : Nat} {P : Nat → Nat → Nat → Prop}
theorem kc_AV : ∀ m s (A : tS), s < 256 → (∀ b, b < 6200 → P b (A 39 b) (A 40 b)) → (∀ i, i < m → P (A 42 ((s + i) % 256)) (A 43 ((s + i) % 256)) (A 44 ((s + i) % 256))) → ∀ b, b < 6200 → P b (kcL m s A 39 b) (kcL m s A 40 b)
  | 0, _, _, _, h, _ => h
  | m + 1, s, A, hs, h, hv => by
    rw [kcL_s]
    have v0 := hv 0 (by omega)
    rw [show (s + 0) % 256 = s from Nat.mod_eq_of_lt hs] at v0
    refine kc_AV m ((s + 1) % 256) (kc1 A s) (Nat.mod_lt _ (by omega)) (fun b hb => ?_) (fun i hi => ?_)
    · unfold kc1
      by_cases c : A 68 (A 42 s) + 1 = A 46 (A 42 s)
      · rw [if_pos c, kp_39, kp_40, up2_rown (show (42 : Nat) ≠ 68 by decide), up2_rown (show (43 : Nat) ≠ 68 by decide), up2_rown (show (44 : Nat) ≠ 68 by decide), up2_rown (show (39 : Nat) ≠ 68 by decide), up2_rown (show (40 : Nat) ≠ 68 by decide)]
        by_cases d : b = A 42 s
        · rw [if_pos d, if_pos d, d]
          exact v0
        · rw [if_neg d, if_neg d]
          exact h b hb
      · rw [if_neg c, up2_rown (show (39 : Nat) ≠ 68 by decide), up2_rown (show (40 : Nat) ≠ 68 by decide)]
        exact h b hb
    · rw [kc1_o (by decide) (by decide) (by decide) (by decide), kc1_o (by decide) (by decide) (by decide) (by decide), kc1_o (by decide) (by decide) (by decide) (by decide), show ((s + 1) % 256 + i) % 256 = (s + (i + 1)) % 256 by omega]
      exact hv (i + 1) (by omega)
theorem rv1_o (h1 : o ≠ 35) (h2 : o < 39 ∨ 46 < o ∨ (41 < o ∧ o < 46)) (h3 : o ≠ 68) : rv1 A o = A o := by
  unfold rv1 kcA
  rw [up2_rown h1, fl_row (show o ≠ 46 by omega), up2_rown h1, kcL_o (by omega) (by omega) (by omega) h3, fl_row h3]
theorem rv1_35 (q : Nat) : rv1 A 35 q = if q = 18 then 1 else if q = 16 then 0 else A 35 q := by
  unfold rv1 kcA
  by_cases c : q = 18
  · rw [if_pos c, c, up2_s]
  · rw [if_neg c, up2_j c, fl_row (by decide)]
    by_cases d : q = 16
    · rw [if_pos d, d, up2_s]
    · rw [if_neg d, up2_j d, kcL_o (by decide) (by decide) (by decide) (by decide), fl_row (by decide)]
theorem rv1_46 (b : Nat) : rv1 A 46 b = if b < 6200 then 0 else A 46 b := by
  unfold rv1 kcA
  rw [up2_rown (by decide), fl_at]
  by_cases c : b < 6200
  · rw [if_pos c, if_pos ⟨rfl, Nat.zero_le _, by omega⟩]
  · rw [if_neg c, if_neg (fun q => c (by omega)), up2_rown (by decide), kcL_o (by decide) (by decide) (by decide) (by decide), fl_row (by decide)]
theorem rv1_39 (h : AV P A) (h5 : A 35 15 < 256) (hb : b < 6200) : P b (rv1 A 39 b) (rv1 A 40 b) := by
  unfold rv1 kcA
  rw [up2_rown (by decide), up2_rown (by decide), fl_row (by decide), fl_row (by decide), up2_rown (by decide), up2_rown (by decide)]
  refine kc_AV _ _ _ h5 (fun b hb => ?_) (fun i hi => ?_) b hb
  · rw [fl_row (by decide), fl_row (by decide)]
    exact h.1 b hb
  · rw [fl_row (by decide), fl_row (by decide), fl_row (by decide)]
    exact h.2 i hi
theorem AV_rv1 (h : AV P A) (h5 : A 35 15 < 256) : AV P (rv1 A) := ⟨fun b hb => rv1_39 h h5 hb, fun j hj => by
  rw [rv1_35, if_neg (by decide), if_pos rfl] at hj
  omega⟩
theorem NV_rv1 : NV (rv1 A) b := fun j hj => by
  rw [rv1_35, if_neg (by decide), if_pos rfl] at hj
  omega
theorem cur_rv1 (h : NV A b) (h5 : A 35 15 < 256) (hb : b < 6200) : cur (rv1 A) b = cur A b := by
  rw [cur_NV NV_rv1, cur_NV h]
  have a : AV (fun b' w i => b' = b → w = A 39 b ∧ i = A 40 b) A := ⟨fun b' _ e => by rw [e]; exact ⟨rfl, rfl⟩, fun j hj e => absurd e (h j hj)⟩
  have := rv1_39 a h5 hb rfl
  rw [this.1, this.2]
theorem upR_nn {X : Nat → Nat} {p : Nat} (h : p ≠ o) : upR A o X p = A p := by
  funext q
  unfold upR
  rw [if_neg h]
theorem upR_ss {X : Nat → Nat} : upR A o X o = X := by
  funext q
  unfold upR
  rw [if_pos rfl]
/-- settled -/
theorem RS_set (hΦ : goodT Φ) (hok : ∀ w A, Φ w A → okT A) (h : OF Φ bi sp C D A J) (hd : dsk A K) (hR : DR bi sp C' D' (rv1 A)) (hc : cO C C') (hj : JP D D') : RS Φ bi sp C' D' (rv1 A) J := by
  have h5 := hd.2.2.1
  obtain ⟨hCO, hoff, hun, h4, hz⟩ := h
  have jo := hCO.2.1.2.2.1
  have jo0 := jo
  unfold JO at jo
  have e : ∀ q, q ≤ 14 ∨ 22 ≤ q → rv1 A 35 q = A 35 q := fun q hq => by rw [rv1_35, if_neg (by omega), if_neg (by omega)]
  have s1 : sC A (upR A 68 (rv1 A 68)) := ⟨fun o ho => upR_nn (by omega), fun q _ _ _ => by rw [upR_nn (by decide)]⟩
  have C1 := CO_scr hΦ hok hCO s1
  have u35 : upR A 68 (rv1 A 68) 35 = A 35 := upR_nn (by decide)
  have dk : dkO (upR A 68 (rv1 A 68)) (rv1 A) := by
    refine ⟨fun o a b => ?_, fun q _ _ _ _ _ _ => ?_⟩
    · by_cases c : o = 68
      · rw [c, upR_ss]
      · rw [upR_nn c]
        exact rv1_o a (by omega) c
    · rw [u35, rv1_35, if_neg (by assumption), if_neg (by assumption)]
  refine ⟨CO_disk hΦ hok C1 hR hc hj dk (LGd_dk hCO.2.2.2.2.1 (fun q hq => e q (by omega)) (fun k i _ _ x => ⟨NV_rv1, cur_rv1 x h5 (by have := whB_in (k := k) (i := i) jo0; omega)⟩)) ?_ ?_, by rw [rv1_35, if_pos rfl], ?_, fun b => ?_⟩
  · have := AV_rv1 hCO.2.2.2.2.2.1 h5
    unfold HDd
    rw [e 35 (by omega), e 28 (by omega)]
    exact this
  · have := AV_rv1 hCO.2.2.2.2.2.2.1 h5
    unfold RG
    rw [e 6 (by omega), e 7 (by omega), e 34 (by omega)]
    exact this
  · unfold UNF
    rw [e 28 (by omega), e 35 (by omega)]
    rcases hun with q | ⟨q1, i, q2, q3⟩
    · exact Or.inl q
    · refine Or.inr ⟨q1, i, q2, ?_⟩
      have wv : whB (rv1 A) J (A 35 28 - A 35 35) i = whB A J (A 35 28 - A 35 35) i := by unfold whB; rw [e 6 (by omega)]
      rw [wv]
      exact AV_rv1 q3 h5
  · rw [rv1_46]
    split
    · rfl
    · exact hz b (by omega)
/-- power fails again -/
theorem RS_pow (hΦ : goodT Φ) (hok : ∀ w A, Φ w A → okT A) (h : RS Φ bi sp C D A J) (hR : DR bi sp C' D' (powA A)) (hc : cO C C') (hj : JP D D') : OF Φ bi sp C' D' (powA A) J := by
  obtain ⟨hCO, hon, hun, h46⟩ := h
  have e : ∀ q, q ≤ 14 ∨ 22 ≤ q → powA A 35 q = A 35 q := fun q hq => (dk_pow (A := A)).2 q (by omega) (by omega) (by omega) (by omega) (by omega) (by omega)
  have sd := pow_sD (A := A)
  have z : ∀ b, powA A 46 b = 0 := fun b => by
    unfold powA
    rw [fl_at]
    split
    · rfl
    · rw [up2_o (by decide), up2_o (by decide)]
      exact h46 b
  refine ⟨CO_pow hΦ hok hCO hR hc hj, ?_, ?_, fun b _ => by rw [z]; exact Nat.zero_le _, fun b _ => z b⟩
  · unfold powA
    rw [fl_row (by decide), up2_j (by decide), up2_s]
  · unfold UNF
    rw [e 28 (by omega), e 35 (by omega)]
    rcases hun with q | ⟨q1, i, q2, q3⟩
    · exact Or.inl q
    · refine Or.inr ⟨q1, i, q2, ?_⟩
      have wv : whB (powA A) J (A 35 28 - A 35 35) i = whB A J (A 35 28 - A 35 35) i := by unfold whB; rw [e 6 (by omega)]
      rw [wv]
      exact AV_sD sd q3
/-- a version that is none of the log's -/
theorem RS_ver (hΦ : goodT Φ) (hok : ∀ w A, Φ w A → okT A) (h : RS Φ bi sp C D A J) (hd : dsk A K) (hR : DR bi sp C' D' (verA A b wh id)) (hc : cO C C') (hj : JP D D') (hb : b < 34 ∨ 34 + A 35 6 ≤ b) (h0 : b = 0 → wh = 1 ∧ A 35 35 ≤ id ∧ id ≤ A 35 28) (hg : rgP (A 35 6) b wh) (h2 : wh = 2 → id ≤ A 35 34) (h3 : wh = 3 → bi id ≠ 0 ∧ b < 34 + A 35 6 + A 35 7) : RS Φ bi sp C' D' (verA A b wh id) J := by
  obtain ⟨hCO, hon, hun, h46⟩ := h
  have jo := hCO.2.1.2.2.1
  have kv := dk_ver (A := A) (b := b) (wh := wh) (id := id)
  have e : ∀ q, q ≤ 14 ∨ 22 ≤ q → verA A b wh id 35 q = A 35 q := fun q hq => kv.2 q (by omega) (by omega) (by omega) (by omega) (by omega) (by omega)
  have nb : ∀ k i, whB A J k i ≠ b := fun k i => by
    have := whB_in (k := k) (i := i) jo
    omega
  refine ⟨CO_ver hΦ hok hCO hd hR hc hj (fun k i _ _ => nb k i) h0 hg h2 h3, ?_, ?_, ?_⟩
  · rw [verA_35 A b wh id 18 (by decide) (by decide) (by decide) (by decide)]
    exact hon
  · unfold UNF
    rw [e 28 (by omega), e 35 (by omega)]
    rcases hun with q | ⟨q1, i, q2, q3⟩
    · exact Or.inl q
    · refine Or.inr ⟨q1, i, q2, ?_⟩
      have wv : whB (verA A b wh id) J (A 35 28 - A 35 35) i = whB A J (A 35 28 - A 35 35) i := by unfold whB; rw [e 6 (by omega)]
      rw [wv]
      exact AV_ver hd q3 (fun z => absurd z.symm (nb _ i))
  · intro b'
    rw [verA_o A b wh id b' (by decide) (by decide)]
    exact h46 b'
theorem RS_flu (hΦ : goodT Φ) (hok : ∀ w A, Φ w A → okT A) (h : RS Φ bi sp C D A J) (h5 : A 35 15 < 256) (hR : DR bi sp C' D' (fluA A)) (hc : cO C C') (hj : JP D D') : RS Φ bi sp C' D' (fluA A) J := by
  obtain ⟨hCO, hon, hun, h46⟩ := h
  obtain ⟨i1, i2, i3, i4, i5⟩ := flu_all h5
  have kf := dk_flu h5
  have e : ∀ q, q ≤ 14 ∨ 22 ≤ q → fluA A 35 q = A 35 q := fun q hq => kf.2 q (by omega) (by omega) (by omega) (by omega) (by omega) (by omega)
  have e18 : fluA A 35 18 = A 35 18 := i4 18 (by decide) (by decide) (by decide) (by decide) (by decide)
  refine ⟨CO_flu hΦ hok hCO h5 hR hc hj, by rw [e18]; exact hon, ?_, ?_⟩
  · unfold UNF
    rw [e 28 (by omega), e 35 (by omega)]
    rcases hun with q | ⟨q1, i, q2, q3⟩
    · exact Or.inl q
    · refine Or.inr ⟨q1, i, q2, ?_⟩
      have wv : whB (fluA A) J (A 35 28 - A 35 35) i = whB A J (A 35 28 - A 35 35) i := by unfold whB; rw [e 6 (by omega)]
      rw [wv]
      exact AV_flu q3 h5
  · rw [i5 46 (by decide) (by decide) (by decide) (by decide)]
    exact h46
end RSS
