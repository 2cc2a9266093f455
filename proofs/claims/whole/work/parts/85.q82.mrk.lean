/-! ===== PURE: the marks of what is replayed, in the class ===== -/
def smK (l : Nat → Nat) (v : Nat) : Nat → Nat → tS → tS
  | _, 0, C => C
  | i, m + 1, C => smK l v (i + 1) m (up2 C 22 (l i) v)
def mrK (D : tD) : Nat → Nat → tS → tS
  | _, 0, C => C
  | n, m + 1, C => mrK D (n + 1) m (smK (dX D 2 n) 0 0 (dT D 9 n) (smK (dX D 0 n) 1 0 (dT D 8 n) C))
section MRK
variable {Φ : tPh} {b0 fu : Nat} {σ τ : tM} {bi sp : Nat → Nat} {w : Nat → Nat × Nat} {C C' X : tS} {D D' D'' : tD} {A B : tS} {J J' : tJ} {K n m k r b id wh e o un fr to : Nat}
theorem smk2 {a N : Nat} {l : Nat → Nat} {v : Nat} (hv : vp_nar .byte ((nI v).toInt8.toInt32) = nI v) (hv2 : v < 2) (hN : N < 2147483648) (hl : ∀ k, k < N → l k < 2034) (H : ∀ σ C, CM b0 σ C D → (∀ k : Nat → Option (Unit × tM), ckR b0 σ a 0 k = k N) ∧ ∀ k, k < N → tI σ a k = nI (l k)) : ∀ j i f σ C, CM b0 σ C D → i + j = N → j < f → wp (FC b0) σ (L_X1_setMarks_2 b0 fu f (b0 + 20) a (nI v) (nI i) σ) (fun _ τ => CM b0 τ (smK l v i j C) D) := by
  intro j
  induction j with
  | zero =>
    intro i f σ C h hi hf
    obtain ⟨f, rfl⟩ : ∃ q, f = q + 1 := ⟨f - 1, by omega⟩
    unfold L_X1_setMarks_2
    rw [ltb_def, (H σ C h).1, if_l hN (by omega), if_pos (by omega)]
    exact wp_ret ((FC_good b0).1 _) h
  | succ j ih =>
    intro i f σ C h hi hf
    obtain ⟨f, rfl⟩ : ∃ q, f = q + 1 := ⟨f - 1, by omega⟩
    have L := h.lay
    have l1 := hl i (by omega)
    unfold L_X1_setMarks_2 J_X1_setMarks_33
    rw [ltb_def, (H σ C h).1, if_l hN (by omega), if_neg (by omega), ckI_n (by omega) (by omega), nI_cl (by omega), (H σ C h).2 i (by omega), if_neg (nI_pos (by omega)), ckI_n (by omega) (by omega)]
    show wp (FC b0) σ (if nI 2034 ≤ nI (l i) then _ else _) _
    rw [if_l (by omega) (by omega), if_neg (by omega), ckC_20 L, osm_p (rfC_20_4 L), ckI_n (by omega) (by omega), ckC_22 L, ckI_n l1 (by omega), nI_cl (by omega), ltb_def, ofi, hv]
    exact wp_from (FC_good b0) (FC_sI (o := 22) (j := l i) (v := nI v) h.rf (by omega)) (ih (i + 1) f _ (up2 C 22 (l i) v) (CM_fix (o := 22) h rfl rfl hv2) (by omega) (by omega))
theorem setM_c (hv : vp_nar .byte ((nI n).toInt8.toInt32) = nI n) (hv2 : n < 2) {a N : Nat} {l : Nat → Nat} (hN : N < fu) (hN2 : N < 2147483648) (hl : ∀ k, k < N → l k < 2034) (H : ∀ σ C, CM b0 σ C D → (∀ k : Nat → Option (Unit × tM), ckR b0 σ a 0 k = k N) ∧ ∀ k, k < N → tI σ a k = nI (l k)) (h : CM b0 σ C D) : wp (FC b0) σ (m_X1_setMarks b0 fu (b0 + 20) a (nI n) σ) (fun _ τ => CM b0 τ (smK l n 0 N C) D) :=
  wp_grw (FC_good b0) (smk2 hv hv2 hN2 hl H N 0 fu σ C h (by omega) hN)
theorem mk13 (hfr : fr < 2147483648) (hto : to < 2147483648) (hu : ∀ n, dL D < n → n ≤ dH D → dT D 8 n < fu ∧ dT D 9 n < fu) : ∀ j n f σ C, CM b0 σ C D → dL D < n → n + j = dH D + 1 → fr + 1 ≤ n → n ≤ to + 1 → to ≤ dH D → j < f → wp (FC b0) σ (L_X1_markReplayed_13 b0 fu f (b0 + 20) (nI fr) (nI to) (if n = dH D + 1 then none else some (dT D 0 n)) σ) (fun _ τ => CM b0 τ (mrK D n (to + 1 - n) C) D) := by
  intro j
  induction j with
  | zero =>
    intro n f σ C h n1 hn hf1 hf2 hf3 hf
    obtain ⟨f, rfl⟩ : ∃ q, f = q + 1 := ⟨f - 1, by omega⟩
    unfold L_X1_markReplayed_13 J_X1_markReplayed_59
    rw [ltb_def, if_pos (by omega), omt_none, show to + 1 - n = 0 by omega]
    exact wp_ret ((FC_good b0).1 _) h
  | succ j ih =>
    intro n f σ C h n1 hn hf1 hf2 hf3 hf
    obtain ⟨f, rfl⟩ : ∃ q, f = q + 1 := ⟨f - 1, by omega⟩
    have L := h.lay
    have bH := (CG_of (z := mo0) h).old.2.2
    obtain ⟨pl, t⟩ := (CG_of (z := mo0) h).tx n1 (by omega)
    obtain ⟨b8, b9, -, -, -⟩ := tx_8 t
    unfold L_X1_markReplayed_13 J_X1_markReplayed_59
    rw [ltb_def, if_neg (by omega), omt_some, ckO_tx t, t.2.2.1.1, if_t (by omega) (by omega)]
    by_cases c : to < n
    · rw [if_pos c, show to + 1 - n = 0 by omega]
      exact wp_ret ((FC_good b0).1 _) h
    rw [if_neg c, if_l (by omega) (by omega), if_neg (by omega), osm_p t.2.2.2.1.1, ckC_20 L]
    have hn' := hu n n1 (by omega)
    refine wp_bind (FC_good b0) (setM_c (fu := fu) (n := 1) (a := dT D 5 n) (N := dT D 8 n) (l := dX D 0 n) (by decide) (by omega) hn'.1 b8 (fun k hk => (t.2.2.2.2.2.1 k hk).1.2) (fun σ C h => by
      obtain ⟨pl, t⟩ := (CG_of (z := mo0) h).tx n1 (by omega)
      exact ⟨fun k => (ckR_tx t).1, fun k hk => (t.2.2.2.2.2.1 k hk).1.1⟩) h) ?_
    intro _ ρ h2
    obtain ⟨pl2, t2⟩ := (CG_of (z := mo0) h2).tx n1 (by omega)
    rw [ckO_tx t2, osm_p t2.2.2.2.1.2.2.1, ckC_20 h2.lay]
    refine wp_bind (FC_good b0) (setM_c (fu := fu) (n := 0) (a := dT D 7 n) (N := dT D 9 n) (l := dX D 2 n) (by decide) (by omega) hn'.2 b9 (fun k hk => (t.2.2.2.2.2.2 k hk).2) (fun σ C h => by
      obtain ⟨pl, t⟩ := (CG_of (z := mo0) h).tx n1 (by omega)
      exact ⟨fun k => (ckR_tx t).2.2, fun k hk => (t.2.2.2.2.2.2 k hk).1⟩) h2) ?_
    intro _ ρ2 h3
    obtain ⟨pl3, t3⟩ := (CG_of (z := mo0) h3).tx n1 (by omega)
    have e : to + 1 - n = (to + 1 - (n + 1)) + 1 := by omega
    rw [e]
    have go := ih (n + 1) f ρ2 _ h3 (by omega) (by omega) (by omega) (by omega) hf3 (by omega)
    unfold J_X1_markReplayed_51
    rw [omt_some, ckO_tx t3, t3.2.2.2.1.2.2.2]
    by_cases d : n = dH D
    · rw [if_pos d, omt_none]
      rw [if_pos (by omega)] at go
      exact go
    · rw [if_neg d, omt_some]
      rw [if_neg (by omega)] at go
      exact go
theorem mk13b (hfr : fr ≤ to) (hto : to ≤ dH D) (hu : ∀ n, dL D < n → n ≤ dH D → dT D 8 n < fu ∧ dT D 9 n < fu) : ∀ j n f σ C, CM b0 σ C D → dL D < n → n + j = fr + 1 → dH D + 1 - n < f → wp (FC b0) σ (L_X1_markReplayed_13 b0 fu f (b0 + 20) (nI fr) (nI to) (if n = dH D + 1 then none else some (dT D 0 n)) σ) (fun _ τ => CM b0 τ (mrK D (fr + 1) (to - fr) C) D) := by
  intro j
  induction j with
  | zero =>
    intro n f σ C h n1 hn hf
    have bH := (CG_of (z := mo0) h).old.2.2
    have := mk13 (fu := fu) (fr := fr) (to := to) (by omega) (by omega) hu (dH D + 1 - n) n f σ C h n1 (by omega) (by omega) (by omega) hto hf
    rw [show to + 1 - n = to - fr by omega, show n = fr + 1 by omega] at this
    rw [show n = fr + 1 by omega]
    exact this
  | succ j ih =>
    intro n f σ C h n1 hn hf
    obtain ⟨f, rfl⟩ : ∃ q, f = q + 1 := ⟨f - 1, by omega⟩
    have bH := (CG_of (z := mo0) h).old.2.2
    obtain ⟨pl, t⟩ := (CG_of (z := mo0) h).tx n1 (by omega)
    have go := ih (n + 1) f σ C h (by omega) (by omega) (by omega)
    unfold L_X1_markReplayed_13
    rw [ltb_def, if_neg (by omega), omt_some, ckO_tx t, t.2.2.1.1, if_t (by omega) (by omega), if_neg (by omega), if_l (by omega) (by omega), if_pos (by omega)]
    unfold J_X1_markReplayed_51
    rw [omt_some, ckO_tx t, t.2.2.2.1.2.2.2]
    by_cases d : n = dH D
    · rw [if_pos d, omt_none]
      rw [if_pos (by omega)] at go
      exact go
    · rw [if_neg d, omt_some]
      rw [if_neg (by omega)] at go
      exact go
/-- markReplayed -/
theorem markReplayed_c (h : CM b0 σ C D) (hfr : dL D ≤ fr) (hft : fr ≤ to) (hto : to ≤ dH D) (hu : 3000 ≤ fu) (hH : dH D < 2000) (ht : ∀ n, dL D < n → n ≤ dH D → dT D 8 n < fu ∧ dT D 9 n < fu) : wp (FC b0) σ (m_X1_markReplayed b0 fu (b0 + 20) (nI fr) (nI to) σ) (fun _ τ => CM b0 τ (mrK D (fr + 1) (to - fr) (fl 22 0 0 2034 C)) D) := by
  have L := h.lay
  refine wp_grw (FC_good b0) ?_
  rw [ckC_20 L, osm_p (rfC_20_4 L)]
  have f : wp (FC b0) σ (m_J7_fill_031fb b0 fu (b0 + 22) 0 σ) (fun _ τ => CM b0 τ (fl 22 0 0 2034 C) D) := by
    refine wp_grw (FC_good b0) ?_
    rw [ckC_22 L, ltb_def]
    exact fill_b (o := 22) (len := 2034) rfl (fun _ => rfl) (fun σ C q => rkC22 q.lay) (by omega) (fun _ => rfl) (by decide) 2034 0 fu σ C h (by omega) (by omega)
  refine wp_bind (FC_good b0) f ?_
  intro _ ρ q
  have o5 := (CG_of (z := mo0) q).old
  have go := mk13b (fu := fu) (fr := fr) (to := to) hft hto ht (fr - dL D) (dL D + 1) fu ρ _ q (by omega) (by omega) (by omega)
  rw [ckC_20 q.lay, o5.1]
  by_cases c : dL D = dH D
  · rw [if_pos c, omt_none]
    rw [if_pos (by omega)] at go
    exact go
  · rw [if_neg c, omt_some]
    rw [if_neg (by omega)] at go
    exact go
/-- the marks are alike -/
def MK (C A : tS) : Prop := (∀ c, 1 ≤ c → c < 34 + A 35 7 → (C 22 c = 0 ↔ A 69 (nbA A c) = 0)) ∧ ∀ b, b = 0 ∨ (34 ≤ b ∧ b < 34 + A 35 6) ∨ 34 + A 35 6 + A 35 7 ≤ b → b < 6200 → A 69 b = 0
theorem nb_35 (h : B 35 = A 35) (x : Nat) : nbA B x = nbA A x := by
  unfold nbA
  rw [h]
theorem mk_1 {c v v' : Nat} (h : MK C A) (h1 : 1 ≤ c) (h2 : c < 34 + A 35 7) (hv : v = 0 ↔ v' = 0) : MK (up2 C 22 c v) (up2 A 69 (nbA A c) v') := by
  have e35 : up2 A 69 (nbA A c) v' 35 = A 35 := up2_rown (by decide)
  have ne : ∀ x, nbA (up2 A 69 (nbA A c) v') x = nbA A x := nb_35 e35
  unfold MK
  rw [e35]
  refine ⟨fun x x1 x2 => ?_, fun b hb hb2 => ?_⟩
  · rw [ne]
    by_cases d : x = c
    · rw [d, up2_s, up2_s]
      exact hv
    · rw [up2_j d, up2_j (fun q => d (nb_inj q))]
      exact h.1 x x1 x2
  · have : b ≠ nbA A c := fun q => by
      unfold nbA at q
      split at q <;> omega
    rw [up2_j this]
    exact h.2 b hb hb2
theorem mk_l {l : Nat → Nat} {v v' st : Nat} (hv : v = 0 ↔ v' = 0) : ∀ m i (C A : tS), MK C A → (∀ q, i ≤ q → q < i + m → J.1 44 (st + q) = nbA A (l q) ∧ 1 ≤ l q ∧ l q < 34 + A 35 7) → MK (smK l v i m C) (byL J v' st i m A) ∧ (∀ o, o ≠ 22 → smK l v i m C o = C o) ∧ ∀ o, o ≠ 69 → byL J v' st i m A o = A o
  | 0, _, _, _, h, _ => ⟨h, fun _ _ => rfl, fun _ _ => rfl⟩
  | m + 1, i, C, A, h, hl => by
    obtain ⟨l1, l2, l3⟩ := hl i (Nat.le_refl _) (by omega)
    have e35 : up2 A 69 (nbA A (l i)) v' 35 = A 35 := up2_rown (by decide)
    have ne : ∀ x, nbA (up2 A 69 (nbA A (l i)) v') x = nbA A x := nb_35 e35
    obtain ⟨i1, i2, i3⟩ := mk_l hv m (i + 1) (up2 C 22 (l i) v) (up2 A 69 (nbA A (l i)) v') (mk_1 h l2 l3 hv) (fun q q1 q2 => by
      rw [ne, e35]
      exact hl q (by omega) (by omega))
    show MK (smK l v (i + 1) m (up2 C 22 (l i) v)) (byL J v' st (i + 1) m (up2 A 69 (J.1 44 (st + i)) v')) ∧ (∀ o, o ≠ 22 → smK l v (i + 1) m (up2 C 22 (l i) v) o = C o) ∧ ∀ o, o ≠ 69 → byL J v' st (i + 1) m (up2 A 69 (J.1 44 (st + i)) v') o = A o
    rw [l1]
    exact ⟨i1, fun o ho => by rw [i2 o ho, up2_rown ho], fun o ho => by rw [i3 o ho, up2_rown ho]⟩
theorem mk_n : ∀ m n (C A : tS), MK C A → A 35 35 < n → (∀ x, n ≤ x → x < n + m → TR sp D A J x (x - A 35 35 - 1)) → MK (mrK D n m C) (byN J (A 35 35) (n - A 35 35 - 1) m A) ∧ (∀ o, o ≠ 22 → mrK D n m C o = C o) ∧ ∀ o, o ≠ 69 → byN J (A 35 35) (n - A 35 35 - 1) m A o = A o
  | 0, _, _, _, h, _, _ => ⟨h, fun _ _ => rfl, fun _ _ => rfl⟩
  | m + 1, n, C, A, h, hn, ht => by
    obtain ⟨⟨t1, t2, t3, t4, t5, t6⟩, tt, tr, -⟩ := ht n (Nat.le_refl _) (by omega)
    obtain ⟨a1, a2, a3⟩ := mk_l (J := J) (l := dX D 0 n) (v := 1) (v' := A 35 35 + (n - A 35 35 - 1) + 1) (st := J.1 41 (n - A 35 35 - 1)) ⟨fun q => (by omega), fun q => (by omega)⟩ (dT D 8 n) 0 C A h (fun q _ hq => tt q (by omega))
    have e35 := a3 35 (by decide)
    have ne : ∀ x, nbA (byL J (A 35 35 + (n - A 35 35 - 1) + 1) (J.1 41 (n - A 35 35 - 1)) 0 (dT D 8 n) A) x = nbA A x := nb_35 e35
    obtain ⟨c1, c2, c3⟩ := mk_l (J := J) (l := dX D 2 n) (v := 0) (v' := 0) (st := J.1 41 (n - A 35 35 - 1) + J.1 42 (n - A 35 35 - 1)) ⟨id, id⟩ (dT D 9 n) 0 _ _ a1 (fun q _ hq => by
      rw [ne, e35]
      exact tr q (by omega))
    have bx : byN J (A 35 35) (n - A 35 35 - 1) (m + 1) A = byN J (A 35 35) (n - A 35 35 - 1 + 1) m (byL J 0 (J.1 41 (n - A 35 35 - 1) + J.1 42 (n - A 35 35 - 1)) 0 (J.1 43 (n - A 35 35 - 1)) (byL J (A 35 35 + (n - A 35 35 - 1) + 1) (J.1 41 (n - A 35 35 - 1)) 0 (J.1 42 (n - A 35 35 - 1)) A)) := rfl
    have mx : mrK D n (m + 1) C = mrK D (n + 1) m (smK (dX D 2 n) 0 0 (dT D 9 n) (smK (dX D 0 n) 1 0 (dT D 8 n) C)) := rfl
    rw [bx, mx, ← t5, ← t6]
    rw [← t5] at c1 c3
    generalize smK (dX D 2 n) 0 0 (dT D 9 n) (smK (dX D 0 n) 1 0 (dT D 8 n) C) = C2 at *
    generalize byL J 0 (J.1 41 (n - A 35 35 - 1) + dT D 8 n) 0 (dT D 9 n) (byL J (A 35 35 + (n - A 35 35 - 1) + 1) (J.1 41 (n - A 35 35 - 1)) 0 (dT D 8 n) A) = A2 at *
    have f35 : A2 35 = A 35 := by rw [c3 35 (by decide), e35]
    obtain ⟨d1, d2, d3⟩ := mk_n m (n + 1) C2 A2 c1 (by rw [f35]; omega) (fun x x1 x2 => by
      have := ht x (by omega) (by omega)
      unfold TR nbA at this ⊢
      rw [f35]
      exact this)
    rw [f35, show n + 1 - A 35 35 - 1 = n - A 35 35 - 1 + 1 by omega] at d1 d3
    exact ⟨d1, fun o ho => by rw [d2 o ho, c2 o ho, a2 o ho], fun o ho => by rw [d3 o ho, c3 o ho, a3 o ho]⟩
end MRK
