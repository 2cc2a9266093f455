/-! ===== PURE: the class's rows: made, written; Disk: giveBytes ===== -/
def upW (D : tD) (a : Nat) (w : Nat → Nat) : tD := (D.1, (fun x => if x = a then w else dW D x), D.2.2)
def upP (D : tD) (o j : Nat) (v : Option Nat) : tD := ((fun p q => if p = o ∧ q = j then v else dP D p q), D.2)
/-- a row that is nowhere -/
def LB (b0 : Nat) (σ : tM) (C : tS) (D : tD) (a : Nat) : Prop := CA b0 σ C ∧ rfO b0 σ ∧ (tu σ ≤ dE D + psi b0 σ ∧ 64 * tn σ ≤ 64 * dO D + psi b0 σ) ∧ isRow b0 σ a (dW D a) ∧ ∃ pl, DY b0 σ D pl ∧ pl a = (0, 0)
section RW1
variable {b0 fu : Nat} {σ τ : tM} {A B : tS} {C C' : tS} {D D' D'' : tD} {bi sp : Nat → Nat} {K : Nat} {pl : Nat → Nat × Nat}
theorem same_sLr {a x : Nat} {F : Nat → Int64} (h : x ≠ a) : same σ (sLr σ a F) x := ⟨rfl, rfl, by
  show va_up (tL σ) a F x = tL σ x
  unfold va_up
  rw [if_neg h], rfl⟩
theorem LB.cm {a : Nat} (h : LB b0 σ C D a) : CM b0 σ C D := by
  obtain ⟨h1, h2, h3, -, pl, h5, -⟩ := h
  exact ⟨h1, h2, h3, pl, h5⟩
theorem LB.row {a : Nat} (h : LB b0 σ C D a) : isRow b0 σ a (dW D a) := h.2.2.2.1
/-- the words of a row anew -/
theorem DY_W {a : Nat} {w : Nat → Nat} {F : Nat → Int64} (h : DY b0 σ D pl) (hr : isRow b0 σ a (dW D a)) (hF : ∀ j, F j = lN (w j) ∧ w j < 18446744073709551616) : DY b0 (sLr σ (a + 1) F) (upW D a w) pl := by
  obtain ⟨h1, ⟨h2, h3⟩, h4, h8⟩ := h
  have kk := hr.2.1
  have row : ∀ x, isRow b0 σ x (dW D x) → isRow b0 (sLr σ (a + 1) F) x (dW (upW D a w) x) := by
    intro x q
    obtain ⟨q1, q2, q3, q4, q5, q6⟩ := q
    refine ⟨q1, q2, q3, q4, q5, fun j => ?_⟩
    show va_up (tL σ) (a + 1) F (x + 1) j = lN ((if x = a then w else dW D x) j) ∧ (if x = a then w else dW D x) j < _
    unfold va_up
    by_cases e : x = a
    · rw [if_pos (by omega), if_pos e]
      exact hF j
    · rw [if_neg (by omega), if_neg e]
      exact q6 j
  refine ⟨fun o j q => ⟨(h1 o j q).1, fun x e => ⟨row x ((h1 o j q).2 x e).1, ((h1 o j q).2 x e).2⟩⟩, ⟨h2, fun k hk => ⟨row _ (h3 k hk).1, (h3 k hk).2⟩⟩, h4, fun n q1 q2 => ?_⟩
  obtain ⟨k1, k2, k3, k4, k5, k6, k7⟩ := h8 n q1 q2
  exact ⟨k1, k2, k3, k4, k5, fun k hk => ⟨(k6 k hk).1, (k6 k hk).2.1, row _ (k6 k hk).2.2.1, (k6 k hk).2.2.2⟩, k7⟩
theorem CA_Lr {a : Nat} {F : Nat → Int64} (h : CA b0 σ C) (ha : a ≠ b0 + 11) : CA b0 (sLr σ a F) C := by
  refine CA_same h h.1 (fun _ _ => rfl) ?_
  show va_up (tL σ) a F (b0 + 11) = tL σ (b0 + 11)
  unfold va_up
  rw [if_neg (fun e => ha e.symm)]
theorem CM_W {a : Nat} {w : Nat → Nat} {F : Nat → Int64} (h : CM b0 σ C D) (hr : isRow b0 σ a (dW D a)) (hF : ∀ j, F j = lN (w j) ∧ w j < 18446744073709551616) : CM b0 (sLr σ (a + 1) F) C (upW D a w) := by
  obtain ⟨h1, h2, h3, pl, h5⟩ := h
  exact ⟨CA_Lr h1 (by have := hr.2.2.2.1.1; omega), h2, h3, pl, DY_W h5 hr hF⟩
theorem LB_W {a : Nat} {w : Nat → Nat} {F : Nat → Int64} (h : LB b0 σ C D a) (hF : ∀ j, F j = lN (w j) ∧ w j < 18446744073709551616) : LB b0 (sLr σ (a + 1) F) C (upW D a w) a := by
  obtain ⟨h1, h2, h3, h4, pl, h5, h6⟩ := h
  refine ⟨CA_Lr h1 (by have := h4.2.2.2.1.1; omega), h2, h3, ?_, pl, DY_W h5 h4 hF, h6⟩
  obtain ⟨q1, q2, q3, q4, q5, q6⟩ := h4
  refine ⟨q1, q2, q3, q4, q5, fun j => ?_⟩
  show va_up (tL σ) (a + 1) F (a + 1) j = lN ((if a = a then w else dW D a) j) ∧ (if a = a then w else dW D a) j < _
  unfold va_up
  rw [if_pos rfl, if_pos rfl]
  exact hF j
theorem FC_Lr {a : Nat} {F : Nat → Int64} {w : Nat → Nat} (hr : isRow b0 σ a w) : FC b0 σ (sLr σ (a + 1) F) := ⟨Nat.le_refl _, Nat.le_refl _, fun x hx => same_sLr (fun e => by
  rcases hx with q | q
  · exact hr.2.2.2.2.1.2 (e ▸ q)
  · have := hr.2.2.2.1.2.2.2
    omega)⟩
/-- the memory with a new row -/
def nwR (b0 : Nat) (σ : tM) : tM := sA (sN (sN σ (b0 + tn σ) (.inl 4) 2) (b0 + tn σ + 1) (.inr (3, 32)) 32) (b0 + tn σ) 0 (some (b0 + tn σ + 1))
theorem FC_nwR (h : rfO b0 σ) (h74 : 74 ≤ tn σ) : FC b0 σ (nwR b0 σ) := by
  have f1 := FC_new (k := .inl 4) (n := 2) h h74
  have f2 := FC_new (k := .inr (3, 32)) (n := 32) (FC_rf f1 h) (Nat.le_succ_of_le h74)
  refine FC_2 f1 (FC_2 f2 ⟨Nat.le_refl _, Nat.le_refl _, fun x hx => same_sA (fun e => ?_)⟩)
  rcases hx with q | q
  · have q1 := (FC_ref f1 x).mp ((FC_ref f2 x).mp q)
    have := (h x q1).2.2
    omega
  · omega
theorem LB_new (h : CM b0 σ C D) : LB b0 (nwR b0 σ) C (upW (adE D 34 2) (b0 + tn σ) (fun _ => 0)) (b0 + tn σ) := by
  have h74 := h.lay.1
  have fc := FC_nwR h.rf h74
  obtain ⟨h1, h2, ⟨h3, h4⟩, pl, h5⟩ := h
  have tn2 : tn (nwR b0 σ) = tn σ + 2 := rfl
  have tu2 : tu (nwR b0 σ) = tu σ + 2 + 32 := rfl
  have ps := FC_psi fc
  have sm : ∀ x, x < b0 + tn σ → same σ (nwR b0 σ) x := fun x hx => same_t (same_new hx) (same_t (same_sN (by show x ≠ b0 + tn σ + 1; omega)) (same_sA (by omega)))
  have rf : ∀ x, refO b0 (nwR b0 σ) x ↔ refO b0 σ x := FC_ref fc
  have nr : ∀ x, b0 + tn σ ≤ x → ¬ refO b0 (nwR b0 σ) x := fun x hx q => by
    have := (h2 x ((rf x).mp q)).2.2
    omega
  have ea : (nwR b0 σ) = nwR b0 σ := rfl
  refine ⟨CA_same h1 (layC_33 h1.lay (by rw [tn2]; omega) (fun o ho => sm _ (by omega))) (fun o ho => (sm _ (by omega)).2.1) (sm _ (by omega)).2.2.1, FC_rf fc h2, ⟨?_, ?_⟩, ?_, fun x => if x = b0 + tn σ then (0, 0) else pl x, ?_, if_pos rfl⟩
  · rw [ps, tu2]
    show _ ≤ dE D + 34 + psi b0 σ
    omega
  · rw [ps, tn2]
    show _ ≤ 64 * (dO D + 2) + psi b0 σ
    omega
  · refine ⟨?_, ?_, ?_, ⟨by omega, by rw [tn2]; omega, by omega, by omega⟩, ⟨nr _ (by omega), nr _ (by omega)⟩, fun j => ?_⟩
    · show va_up (va_up (tk σ) (b0 + tn σ) (.inl 4)) (b0 + tn σ + 1) (.inr (3, 32)) (b0 + tn σ) = _
      unfold va_up
      rw [if_neg (by omega), if_pos rfl]
    · show va_up (va_up (tk σ) (b0 + tn σ) (.inl 4)) (b0 + tn σ + 1) (.inr (3, 32)) (b0 + tn σ + 1) = _
      unfold va_up
      rw [if_pos rfl]
    · show tA (sA _ (b0 + tn σ) 0 _) (b0 + tn σ) 0 = _
      rw [rd_AA, if_pos rfl, if_pos rfl]
    · show va_up (va_up (tL σ) (b0 + tn σ) (fun _ => 0)) (b0 + tn σ + 1) (fun _ => 0) (b0 + tn σ + 1) j = lN ((if b0 + tn σ = b0 + tn σ then (fun _ => 0) else dW D (b0 + tn σ)) j) ∧ (if b0 + tn σ = b0 + tn σ then (fun _ => 0) else dW D (b0 + tn σ)) j < _
      unfold va_up
      rw [if_pos rfl, if_pos rfl]
      exact ⟨rfl, by decide⟩
  · have d2 : DY b0 (nwR b0 σ) D pl := DY_same h5 (by rw [tn2]; omega) (fun x _ q => (rf x).mp q) (fun o j q => by rw [(sm (b0 + o) (by rcases q with q | q | q <;> omega)).2.2.2]) (by rw [(sm (b0 + 20) (by omega)).2.2.2]; exact ⟨rfl, rfl, rfl⟩) (fun x _ q2 _ _ => sm x q2)
    obtain ⟨g1, ⟨g2, g3⟩, g4, g8⟩ := d2
    obtain ⟨o1, ⟨o2, o3⟩, o4, o8⟩ := h5
    have low : ∀ x w, isRow b0 σ x w → x ≠ b0 + tn σ := fun x w q => by have := q.2.2.2.1.2.1; omega
    have ew : ∀ x, x ≠ b0 + tn σ → dW (upW (adE D 34 2) (b0 + tn σ) (fun _ => 0)) x = dW D x := fun x hx => if_neg hx
    refine ⟨fun o j q => ⟨(g1 o j q).1, fun x e => ?_⟩, ⟨g2, fun k hk => ?_⟩, g4, fun n q1 q2 => ?_⟩
    · have l := low x _ ((o1 o j q).2 x e).1
      show isRow b0 (nwR b0 σ) x (dW (upW (adE D 34 2) (b0 + tn σ) (fun _ => 0)) x) ∧ (if x = b0 + tn σ then (0, 0) else pl x) = (o, j)
      rw [ew x l, if_neg l]
      exact (g1 o j q).2 x e
    · have l := low _ _ (o3 k hk).1
      show isRow b0 (nwR b0 σ) (dS D k) (dW (upW (adE D 34 2) (b0 + tn σ) (fun _ => 0)) (dS D k)) ∧ (if dS D k = b0 + tn σ then (0, 0) else pl (dS D k)) = (100, k) ∧ tA (nwR b0 σ) (dS D k) 1 = (if k = 0 then none else some (dS D (k - 1)))
      rw [ew _ l, if_neg l]
      exact g3 k hk
    · obtain ⟨k1, k2, k3, k4, k5, k6, k7⟩ := g8 n q1 q2
      obtain ⟨-, -, -, -, -, p6, -⟩ := o8 n q1 q2
      refine ⟨k1, k2, k3, k4, k5, fun k hk => ?_, k7⟩
      have l := low _ _ (p6 k hk).2.2.1
      show _ ∧ _ ∧ isRow b0 (nwR b0 σ) (dX D 1 n k) (dW (upW (adE D 34 2) (b0 + tn σ) (fun _ => 0)) (dX D 1 n k)) ∧ (if dX D 1 n k = b0 + tn σ then (0, 0) else pl (dX D 1 n k)) = _
      rw [ew _ l, if_neg l]
      exact k6 k hk
end RW1
