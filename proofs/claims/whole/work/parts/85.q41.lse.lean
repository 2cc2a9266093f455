/-! ===== PURE: the journal's rows: loose ones, moved ones ===== -/
/-- a transaction whose first m rows are elsewhere by now -/
def isTm (b0 : Nat) (σ : tM) (D : tD) (pl : Nat → Nat × Nat) (n m : Nat) : Prop :=
  (tk σ (dT D 0 n) = .inl 7 ∧ tk σ (dT D 5 n) = .inr (0, dT D 8 n) ∧ tk σ (dT D 6 n) = .inr (4, dT D 8 n) ∧ tk σ (dT D 7 n) = .inr (0, dT D 9 n)) ∧
  (isO b0 σ (dT D 0 n) ∧ isO b0 σ (dT D 5 n) ∧ isO b0 σ (dT D 6 n) ∧ isO b0 σ (dT D 7 n)) ∧
  (tI σ (dT D 0 n) 0 = nI n ∧ tI σ (dT D 0 n) 1 = nI (dT D 2 n) ∧ tI σ (dT D 0 n) 2 = nI (dT D 3 n) ∧ tI σ (dT D 0 n) 3 = nI (dT D 4 n)) ∧
  (tA σ (dT D 0 n) 4 = some (dT D 5 n) ∧ tA σ (dT D 0 n) 5 = some (dT D 6 n) ∧ tA σ (dT D 0 n) 6 = some (dT D 7 n) ∧ tA σ (dT D 0 n) 7 = if n = dH D then none else some (dT D 0 (n + 1))) ∧
  (∀ f, dT D f n < 2147483648 ∨ f = 0 ∨ f = 5 ∨ f = 6 ∨ f = 7) ∧
  (∀ k, k < dT D 8 n → (tI σ (dT D 5 n) k = nI (dX D 0 n k) ∧ dX D 0 n k < 2034) ∧ tA σ (dT D 6 n) k = some (dX D 1 n k) ∧ isRow b0 σ (dX D 1 n k) (dW D (dX D 1 n k)) ∧ (m ≤ k → pl (dX D 1 n k) = (1000 + n, k))) ∧
  (∀ k, k < dT D 9 n → tI σ (dT D 7 n) k = nI (dX D 2 n k) ∧ dX D 2 n k < 2034)
def DG (b0 : Nat) (σ : tM) (D : tD) (pl : Nat → Nat × Nat) (mo : Nat → Nat) : Prop :=
  (∀ o j, isP o j → tA σ (b0 + o) j = dP D o j ∧ ∀ a, dP D o j = some a → isRow b0 σ a (dW D a) ∧ pl a = (o, j)) ∧
  (tA σ (b0 + 20) 7 = (if dN D = 0 then none else some (dS D (dN D - 1))) ∧ ∀ k, k < dN D → isRow b0 σ (dS D k) (dW D (dS D k)) ∧ pl (dS D k) = (100, k) ∧ tA σ (dS D k) 1 = (if k = 0 then none else some (dS D (k - 1)))) ∧
  (dL D ≤ dH D ∧ dH D < 2147483648 ∧ tA σ (b0 + 20) 5 = (if dL D = dH D then none else some (dT D 0 (dL D + 1))) ∧ (dL D = dH D ∨ tA σ (b0 + 20) 6 = some (dT D 0 (dH D)))) ∧
  (∀ n, dL D < n → n ≤ dH D → isTm b0 σ D pl n (mo n))
/-- the class's memory with loose rows: z 0, z 1, .. z (m - 1) -/
def CG (b0 : Nat) (σ : tM) (C : tS) (D : tD) (mo z : Nat → Nat) (m : Nat) : Prop := CA b0 σ C ∧ rfO b0 σ ∧ (tu σ ≤ dE D + psi b0 σ ∧ 64 * tn σ ≤ 64 * dO D + psi b0 σ) ∧ ∃ pl, DG b0 σ D pl mo ∧ ∀ k, k < m → isRow b0 σ (z k) (dW D (z k)) ∧ pl (z k) = (0, k)
/-- the class's frame, with the last transaction as it was -/
def F6 (b0 : Nat) (σ τ : tM) : Prop := FC b0 σ τ ∧ tA τ (b0 + 20) 6 = tA σ (b0 + 20) 6
theorem F6_good (b0 : Nat) : goodF (F6 b0) := ⟨fun σ => ⟨(FC_good b0).1 σ, rfl⟩, fun σ τ ρ h k => ⟨(FC_good b0).2.1 _ _ _ h.1 k.1, k.2.trans h.2⟩, fun σ τ h => (FC_good b0).2.2 _ _ h.1⟩
theorem F6_2 {b0 : Nat} {σ τ ρ : tM} (h : F6 b0 σ τ) (k : F6 b0 τ ρ) : F6 b0 σ ρ := (F6_good b0).2.1 _ _ _ h k
/-- only pointers to rows change -/
def NR (b0 : Nat) (σ τ : tM) : Prop := tn τ = tn σ ∧ tu τ = tu σ ∧ tk τ = tk σ ∧ tI τ = tI σ ∧ tL τ = tL σ ∧ ∀ x j, tA τ x j = tA σ x j ∨ x = b0 + 3 ∨ x = b0 + 8 ∨ x = b0 + 21 ∨ (x = b0 + 20 ∧ 5 ≤ j ∧ j ≤ 7) ∨ (j = 1 ∧ tk σ x = .inl 4 ∧ b0 + 33 ≤ x ∧ x ≠ b0 + 73 ∧ ¬ refO b0 σ x)
def mo0 : Nat → Nat := fun _ => 0
def upz (z : Nat → Nat) (m a : Nat) : Nat → Nat := fun k => if k = m then a else z k
section LSE
variable {b0 fu : Nat} {σ τ ρ : tM} {C C' : tS} {D D' : tD} {pl : Nat → Nat × Nat} {mo z : Nat → Nat} {m : Nat}
theorem CG_of (h : CM b0 σ C D) : CG b0 σ C D mo0 z 0 := by
  obtain ⟨h1, h2, h3, pl, g1, g2, ⟨g3, g5, g6, g7⟩, g4⟩ := h
  refine ⟨h1, h2, h3, pl, ⟨g1, g2, ⟨g3, g5, g6, ?_⟩, fun n a b => ?_⟩, fun k hk => by omega⟩
  · by_cases c : dL D = dH D
    · exact Or.inl c
    · rw [if_neg c] at g7
      exact Or.inr g7
  obtain ⟨k1, k2, k3, k4, k5, k6, k7⟩ := g4 n a b
  exact ⟨k1, k2, k3, k4, k5, fun k hk => ⟨(k6 k hk).1, (k6 k hk).2.1, (k6 k hk).2.2.1, fun _ => (k6 k hk).2.2.2⟩, k7⟩
theorem CG_to (h : CG b0 σ C D mo0 z 0) (h6 : dL D = dH D → tA σ (b0 + 20) 6 = none) : CM b0 σ C D := by
  obtain ⟨h1, h2, h3, pl, ⟨g1, g2, ⟨g3, g5, g6, g7⟩, g4⟩, -⟩ := h
  refine ⟨h1, h2, h3, pl, g1, g2, ⟨g3, g5, g6, ?_⟩, fun n a b => ?_⟩
  · by_cases c : dL D = dH D
    · rw [if_pos c]
      exact h6 c
    · rw [if_neg c]
      exact g7.resolve_left c
  obtain ⟨k1, k2, k3, k4, k5, k6, k7⟩ := g4 n a b
  exact ⟨k1, k2, k3, k4, k5, fun k hk => ⟨(k6 k hk).1, (k6 k hk).2.1, (k6 k hk).2.2.1, (k6 k hk).2.2.2 (Nat.zero_le _)⟩, k7⟩
theorem CG.ca (h : CG b0 σ C D mo z m) : CA b0 σ C := h.1
theorem CG.lay (h : CG b0 σ C D mo z m) : LayC b0 σ := h.1.lay
theorem CG.rf (h : CG b0 σ C D mo z m) : rfO b0 σ := h.2.1
theorem NR_r : NR b0 σ σ := ⟨rfl, rfl, rfl, rfl, rfl, fun _ _ => Or.inl rfl⟩
theorem NR.a35 (h : NR b0 σ τ) : tA τ (b0 + 35) = tA σ (b0 + 35) := by
  funext j
  rcases h.2.2.2.2.2 (b0 + 35) j with q | q | q | q | q | q
  · exact q
  · omega
  · omega
  · omega
  · omega
  · exact absurd (refO_f 35 (by omega) (by omega)) q.2.2.2.2
theorem NR.ref (h : NR b0 σ τ) (a : Nat) : refO b0 τ a ↔ refO b0 σ a := by
  unfold refO
  rw [h.a35]
theorem NR_t (h : NR b0 σ τ) (k : NR b0 τ ρ) : NR b0 σ ρ := by
  have hr := h.ref
  obtain ⟨h1, h2, h3, h4, h5, h6⟩ := h
  obtain ⟨k1, k2, k3, k4, k5, k6⟩ := k
  refine ⟨k1.trans h1, k2.trans h2, k3.trans h3, k4.trans h4, k5.trans h5, fun x j => ?_⟩
  rcases k6 x j with q | q
  · rcases h6 x j with r | r
    · exact Or.inl (q.trans r)
    · exact Or.inr r
  · rw [h3, hr] at q
    exact Or.inr q
theorem NR.a0 (h : NR b0 σ τ) {x j : Nat} (h1 : b0 + 33 ≤ x) (h2 : j ≠ 1 ∨ tk σ x ≠ .inl 4) : tA τ x j = tA σ x j := by
  rcases h.2.2.2.2.2 x j with q | q | q | q | q | q
  · exact q
  · omega
  · omega
  · omega
  · omega
  · rcases h2 with r | r
    · exact absurd q.1 r
    · exact absurd q.2.1 r
theorem NR.aF (h : NR b0 σ τ) (p j : Nat) (h1 : p < 33) (h3 : p ≠ 3) (h8 : p ≠ 8) (h21 : p ≠ 21) (h20 : p = 20 → ¬ (5 ≤ j ∧ j ≤ 7)) : tA τ (b0 + p) j = tA σ (b0 + p) j := by
  rcases h.2.2.2.2.2 (b0 + p) j with q | q | q | q | q | q
  · exact q
  · omega
  · omega
  · omega
  · exact absurd q.2 (h20 (by omega))
  · omega
theorem NR.row (h : NR b0 σ τ) {a : Nat} {w : Nat → Nat} (r : isRow b0 σ a w) : isRow b0 τ a w := by
  obtain ⟨r1, r2, r3, r4, r5, r6⟩ := r
  have hr := h.ref
  have e0 := h.a0 (x := a) (j := 0) r4.1 (Or.inl (by decide))
  obtain ⟨h1, h2, h3, h4, h5, h6⟩ := h
  refine ⟨by rw [h3]; exact r1, by rw [h3]; exact r2, by rw [e0]; exact r3, by rw [h1]; exact r4, ⟨fun q => r5.1 ((hr _).mp q), fun q => r5.2 ((hr _).mp q)⟩, fun j => by rw [h5]; exact r6 j⟩
theorem NR.fc (h : NR b0 σ τ) (hf : rfO b0 σ) : FC b0 σ τ := by
  obtain ⟨h1, h2, h3, h4, h5, h6⟩ := h
  refine ⟨by omega, by omega, fun a ha => ⟨by rw [h3], by rw [h4], by rw [h5], ?_⟩⟩
  have l : b0 + 35 ≤ a := by
    rcases ha with q | q
    · exact (hf a q).1
    · omega
  funext j
  rcases h6 a j with q | q | q | q | q | q
  · exact q
  · omega
  · omega
  · omega
  · omega
  · rcases ha with r | r
    · exact absurd r q.2.2.2.2
    · exact absurd r q.2.2.2.1
theorem NR.ca (h : NR b0 σ τ) (hc : CA b0 σ C) : CA b0 τ C := by
  have e := h.aF
  obtain ⟨h1, h2, h3, h4, h5, h6⟩ := h
  refine CA_same hc (layC_of hc.lay (by omega) (fun a _ => by rw [h3]) ?_) (fun o _ => by rw [h4]) (by rw [h5])
  repeat' apply And.intro
  all_goals exact e _ _ (by decide) (by decide) (by decide) (by decide) (by decide)
theorem NR.tm (h : NR b0 σ τ) {n m' : Nat} {pl' : Nat → Nat × Nat} (t : isTm b0 σ D pl n m) (e1 : dT D' = dT D) (e2 : dX D' = dX D) (e3 : dW D' = dW D) (e4 : dH D' = dH D) (hp : ∀ k, k < dT D 8 n → m' ≤ k → pl' (dX D 1 n k) = (1000 + n, k)) : isTm b0 τ D' pl' n m' := by
  obtain ⟨k1, k2, k3, k4, k5, k6, k7⟩ := t
  have io : ∀ a, isO b0 σ a → isO b0 τ a := fun a q => ⟨q.1, by rw [h.1]; exact q.2.1, q.2.2.1, fun r => q.2.2.2 ((h.ref a).mp r)⟩
  have hr := fun a w => h.row (a := a) (w := w)
  have a0 := fun j => h.a0 (x := dT D 0 n) (j := j) k2.1.1 (Or.inr (by rw [k1.1]; simp))
  have a6 := fun j => h.a0 (x := dT D 6 n) (j := j) k2.2.2.1.1 (Or.inr (by rw [k1.2.2.1]; simp))
  obtain ⟨h1, h2, h3, h4, h5, h6⟩ := h
  unfold isTm
  rw [e1, e2, e3, e4, h3, h4, a0, a0, a0, a0]
  exact ⟨k1, ⟨io _ k2.1, io _ k2.2.1, io _ k2.2.2.1, io _ k2.2.2.2⟩, k3, k4, k5, fun k hk => ⟨(k6 k hk).1, by rw [a6]; exact (k6 k hk).2.1, hr _ _ (k6 k hk).2.2.1, hp k hk⟩, k7⟩
theorem NR.psi (h : NR b0 σ τ) (hf : rfO b0 σ) : psi b0 τ = psi b0 σ := FC_psi (h.fc hf)
/-- the spare rows with one more, one less -/
def psS (D : tD) (a : Nat) : tD := (D.1, D.2.1, (fun k => if k = dN D then a else dS D k), dN D + 1, D.2.2.2.2)
def ppS (D : tD) : tD := (D.1, D.2.1, D.2.2.1, dN D - 1, D.2.2.2.2)
theorem NR_2 {a j : Nat} {v : Option Nat} (h1 : (a = b0 + 3 ∨ a = b0 + 8 ∨ a = b0 + 21 ∨ (a = b0 + 20 ∧ 5 ≤ j ∧ j ≤ 7)) ∨ (j = 1 ∧ ∃ w, isRow b0 σ a w)) : NR b0 σ (sA σ a j v) := by
  refine ⟨rfl, rfl, rfl, rfl, rfl, fun x y => ?_⟩
  by_cases c : x = a ∧ y = j
  · obtain ⟨rfl, rfl⟩ := c
    rcases h1 with q | ⟨q, w, r⟩
    · rcases q with q | q | q | q
      · exact Or.inr (Or.inl q)
      · exact Or.inr (Or.inr (Or.inl q))
      · exact Or.inr (Or.inr (Or.inr (Or.inl q)))
      · exact Or.inr (Or.inr (Or.inr (Or.inr (Or.inl q))))
    · exact Or.inr (Or.inr (Or.inr (Or.inr (Or.inr ⟨q, r.1, r.2.2.2.1.1, r.2.2.2.1.2.2.1, r.2.2.2.2.1.1⟩))))
  · left
    rw [rd_AA]
    by_cases d : x = a
    · rw [if_pos d, if_neg (fun e => c ⟨d, e⟩)]
    · rw [if_neg d]
/-- a spare row is taken -/
theorem CG_pop (h : CG b0 σ C D mo z m) {d : Nat} (hd : dN D = d + 1) : CG b0 (sA (sA σ (b0 + 20) 7 (if d = 0 then none else some (dS D (d - 1)))) (dS D d) 1 none) C (ppS D) mo (upz z m (dS D d)) (m + 1) ∧ NR b0 σ (sA (sA σ (b0 + 20) 7 (if d = 0 then none else some (dS D (d - 1)))) (dS D d) 1 none) ∧ isRow b0 σ (dS D d) (dW D (dS D d)) ∧ tA σ (b0 + 20) 7 = some (dS D d) ∧ tA σ (dS D d) 1 = (if d = 0 then none else some (dS D (d - 1))) := by
  obtain ⟨h1, h2, h3, pl, ⟨g1, ⟨g2, g3⟩, ⟨g4, g5, g6, g7⟩, g8⟩, gz⟩ := h
  obtain ⟨ra, pa', na⟩ := g3 d (by omega)
  rw [if_neg (by omega), hd, show d + 1 - 1 = d by omega] at g2
  generalize ea : dS D d = a at ra pa' na g2
  have n1 : NR b0 σ (sA σ (b0 + 20) 7 (if d = 0 then none else some (dS D (d - 1)))) := NR_2 (Or.inl (Or.inr (Or.inr (Or.inr ⟨rfl, by decide, by decide⟩))))
  have n2 : NR b0 (sA σ (b0 + 20) 7 (if d = 0 then none else some (dS D (d - 1)))) (sA (sA σ (b0 + 20) 7 (if d = 0 then none else some (dS D (d - 1)))) a 1 none) := NR_2 (Or.inr ⟨rfl, _, n1.row ra⟩)
  have nn := NR_t n1 n2
  generalize hτ : sA (sA σ (b0 + 20) 7 (if d = 0 then none else some (dS D (d - 1)))) a 1 none = τ at nn
  have al := ra.2.2.2.1.1
  have t20 : ∀ j, tA τ (b0 + 20) j = if j = 7 then (if d = 0 then none else some (dS D (d - 1))) else tA σ (b0 + 20) j := fun j => by
    rw [← hτ, rd_AA, if_neg (by omega), rd_AA, if_pos rfl]
  have tP : ∀ o j, isP o j → tA τ (b0 + o) j = tA σ (b0 + o) j := fun o j q => by
    rw [← hτ, rd_AA, if_neg (by rcases q with q | q | q <;> omega), rd_AA, if_neg (by rcases q with q | q | q <;> omega)]
  have ne : ∀ x, pl x ≠ (100, d) → x ≠ a := fun x q e => q (by rw [e]; exact pa')
  refine ⟨⟨nn.ca h1, FC_rf (nn.fc h2) h2, by rw [nn.psi h2, nn.1, nn.2.1]; exact h3, fun x => if x = a then (0, m) else pl x, ⟨fun o j q => ⟨by rw [tP o j q]; exact (g1 o j q).1, fun x e => ?_⟩, ⟨?_, fun k hk => ?_⟩, ⟨g4, g5, ?_, ?_⟩, fun n a1 a2 => ?_⟩, fun k hk => ?_⟩, nn, ra, g2, na⟩
  · obtain ⟨r1, r2⟩ := (g1 o j q).2 x e
    have xa : x ≠ a := ne x (by rw [r2]; intro e; have := congrArg Prod.fst e; simp at this; rcases q with q | q | q <;> omega)
    exact ⟨nn.row r1, by show (if x = a then _ else pl x) = _; rw [if_neg xa]; exact r2⟩
  · rw [t20, if_pos rfl]
    show _ = if dN D - 1 = 0 then none else some (dS D (dN D - 1 - 1))
    rw [hd, show d + 1 - 1 = d by omega]
  · have hk : k < dN D - 1 := hk
    obtain ⟨r1, r2, r3⟩ := g3 k (by omega)
    have xa : dS D k ≠ a := ne _ (by rw [r2]; intro e; have := congrArg Prod.snd e; simp at this; omega)
    refine ⟨nn.row r1, by show (if dS D k = a then _ else pl (dS D k)) = _; rw [if_neg xa]; exact r2, ?_⟩
    show tA τ (dS D k) 1 = _
    rw [← hτ, rd_AA, if_neg xa, rd_AA, if_neg (by have := r1.2.2.2.1.1; omega)]
    exact r3
  · rw [t20, if_neg (by decide)]
    exact g6
  · rw [t20, if_neg (by decide)]
    exact g7
  · have t := g8 n a1 a2
    have k6 := t.2.2.2.2.2.1
    refine nn.tm (D' := ppS D) t rfl rfl rfl rfl (fun k hk hm => ?_)
    have r2 := (k6 k hk).2.2.2 hm
    have xa : dX D 1 n k ≠ a := ne _ (by rw [r2]; intro e; have := congrArg Prod.fst e; simp at this; omega)
    show (if dX D 1 n k = a then _ else pl (dX D 1 n k)) = _
    rw [if_neg xa]
    exact r2
  · show isRow b0 τ (if k = m then a else z k) (dW D (if k = m then a else z k)) ∧ (if (if k = m then a else z k) = a then (0, m) else pl (if k = m then a else z k)) = (0, k)
    by_cases c : k = m
    · rw [if_pos c, if_pos rfl, c, ← ea]
      exact ⟨nn.row (by rw [ea]; exact ra), rfl⟩
    · obtain ⟨r1, r2⟩ := gz k (by omega)
      rw [if_neg c, if_neg (ne _ (by rw [r2]; intro e; have := congrArg Prod.fst e; simp at this))]
      exact ⟨nn.row r1, r2⟩
/-- the last loose row is given back -/
theorem CG_psh (h : CG b0 σ C D mo z (m + 1)) : CG b0 (sA (sA σ (z m) 1 (if dN D = 0 then none else some (dS D (dN D - 1)))) (b0 + 20) 7 (some (z m))) C (psS D (z m)) mo z m ∧ NR b0 σ (sA (sA σ (z m) 1 (if dN D = 0 then none else some (dS D (dN D - 1)))) (b0 + 20) 7 (some (z m))) ∧ isRow b0 σ (z m) (dW D (z m)) ∧ tA σ (b0 + 20) 7 = (if dN D = 0 then none else some (dS D (dN D - 1))) := by
  obtain ⟨h1, h2, h3, pl, ⟨g1, ⟨g2, g3⟩, ⟨g4, g5, g6, g7⟩, g8⟩, gz⟩ := h
  obtain ⟨ra, pa'⟩ := gz m (by omega)
  generalize ea : z m = a at ra pa'
  have n1 : NR b0 σ (sA σ a 1 (if dN D = 0 then none else some (dS D (dN D - 1)))) := NR_2 (Or.inr ⟨rfl, _, ra⟩)
  have n2 : NR b0 (sA σ a 1 (if dN D = 0 then none else some (dS D (dN D - 1)))) (sA (sA σ a 1 (if dN D = 0 then none else some (dS D (dN D - 1)))) (b0 + 20) 7 (some a)) := NR_2 (Or.inl (Or.inr (Or.inr (Or.inr ⟨rfl, by decide, by decide⟩))))
  have nn := NR_t n1 n2
  generalize hτ : sA (sA σ a 1 (if dN D = 0 then none else some (dS D (dN D - 1)))) (b0 + 20) 7 (some a) = τ at nn
  have al := ra.2.2.2.1.1
  have t20 : ∀ j, tA τ (b0 + 20) j = if j = 7 then some a else tA σ (b0 + 20) j := fun j => by
    rw [← hτ, rd_AA, if_pos rfl]
    by_cases c : j = 7
    · rw [if_pos c, if_pos c]
    · rw [if_neg c, if_neg c, rd_AA, if_neg (by omega)]
  have tP : ∀ o j, isP o j → tA τ (b0 + o) j = tA σ (b0 + o) j := fun o j q => by
    rw [← hτ, rd_AA, if_neg (by rcases q with q | q | q <;> omega), rd_AA, if_neg (by rcases q with q | q | q <;> omega)]
  have ne : ∀ x, pl x ≠ (0, m) → x ≠ a := fun x q e => q (by rw [e]; exact pa')
  refine ⟨⟨nn.ca h1, FC_rf (nn.fc h2) h2, by rw [nn.psi h2, nn.1, nn.2.1]; exact h3, fun x => if x = a then (100, dN D) else pl x, ⟨fun o j q => ⟨by rw [tP o j q]; exact (g1 o j q).1, fun x e => ?_⟩, ⟨?_, fun k hk => ?_⟩, ⟨g4, g5, ?_, ?_⟩, fun n a1 a2 => ?_⟩, fun k hk => ?_⟩, nn, ra, g2⟩
  · obtain ⟨r1, r2⟩ := (g1 o j q).2 x e
    have xa : x ≠ a := ne x (by rw [r2]; intro e; have := congrArg Prod.fst e; simp at this; rcases q with q | q | q <;> omega)
    exact ⟨nn.row r1, by show (if x = a then _ else pl x) = _; rw [if_neg xa]; exact r2⟩
  · rw [t20, if_pos rfl]
    show _ = if dN D + 1 = 0 then none else some (if dN D + 1 - 1 = dN D then a else dS D (dN D + 1 - 1))
    rw [if_neg (by omega), if_pos (by omega)]
  · have hk : k < dN D + 1 := hk
    show isRow b0 τ (if k = dN D then a else dS D k) (dW D (if k = dN D then a else dS D k)) ∧ (if (if k = dN D then a else dS D k) = a then (100, dN D) else pl (if k = dN D then a else dS D k)) = (100, k) ∧ tA τ (if k = dN D then a else dS D k) 1 = (if k = 0 then none else some (if k - 1 = dN D then a else dS D (k - 1)))
    by_cases c : k = dN D
    · rw [if_pos c, if_pos rfl, c]
      refine ⟨nn.row ra, rfl, ?_⟩
      rw [← hτ, rd_AA, if_neg (by omega), rd_AA, if_pos rfl, if_pos rfl]
      by_cases e : dN D = 0
      · rw [if_pos e, if_pos e]
      · rw [if_neg e, if_neg e, if_neg (by omega)]
    · obtain ⟨r1, r2, r3⟩ := g3 k (by omega)
      have xa : dS D k ≠ a := ne _ (by rw [r2]; intro e; have := congrArg Prod.fst e; simp at this)
      rw [if_neg c, if_neg xa]
      refine ⟨nn.row r1, r2, ?_⟩
      rw [← hτ, rd_AA, if_neg (by have := r1.2.2.2.1.1; omega), rd_AA, if_neg xa, r3]
      by_cases e : k = 0
      · rw [if_pos e, if_pos e]
      · rw [if_neg e, if_neg e, if_neg (by omega)]
  · rw [t20, if_neg (by decide)]
    exact g6
  · rw [t20, if_neg (by decide)]
    exact g7
  · have t := g8 n a1 a2
    have k6 := t.2.2.2.2.2.1
    refine nn.tm (D' := psS D a) t rfl rfl rfl rfl (fun k hk hm => ?_)
    have r2 := (k6 k hk).2.2.2 hm
    have xa : dX D 1 n k ≠ a := ne _ (by rw [r2]; intro e; have e1 : 1000 + n = 0 := congrArg Prod.fst e; omega)
    show (if dX D 1 n k = a then _ else pl (dX D 1 n k)) = _
    rw [if_neg xa]
    exact r2
  · obtain ⟨r1, r2⟩ := gz k (by omega)
    refine ⟨nn.row r1, ?_⟩
    show (if z k = a then _ else pl (z k)) = _
    rw [if_neg (ne _ (by rw [r2]; intro e; have := congrArg Prod.snd e; simp at this; omega))]
    exact r2
/-- a row is taken from its place in the base -/
theorem CG_frB (h : CG b0 σ C D mo z m) {c a : Nat} (hc : c < 2034) (e0 : dP D 21 c = some a) : CG b0 (sA σ (b0 + 21) c none) C (upP D 21 c none) mo (upz z m a) (m + 1) ∧ NR b0 σ (sA σ (b0 + 21) c none) ∧ isRow b0 σ a (dW D a) := by
  obtain ⟨h1, h2, h3, pl, ⟨g1, ⟨g2, g3⟩, ⟨g4, g5, g6, g7⟩, g8⟩, gz⟩ := h
  have iP : isP 21 c := Or.inr (Or.inr ⟨rfl, hc⟩)
  obtain ⟨ra, pa'⟩ := (g1 21 c iP).2 a e0
  have nn : NR b0 σ (sA σ (b0 + 21) c none) := NR_2 (Or.inl (Or.inr (Or.inr (Or.inl rfl))))
  generalize hτ : sA σ (b0 + 21) c none = τ at nn
  have al := ra.2.2.2.1.1
  have tx : ∀ x, x ≠ b0 + 21 → tA τ x = tA σ x := fun x q => by rw [← hτ]; exact rd_A1 _ _ _ _ q
  have ne : ∀ x, pl x ≠ (21, c) → x ≠ a := fun x q e => q (by rw [e]; exact pa')
  refine ⟨⟨nn.ca h1, FC_rf (nn.fc h2) h2, by rw [nn.psi h2, nn.1, nn.2.1]; exact h3, fun x => if x = a then (0, m) else pl x, ⟨fun o j q => ⟨?_, fun x e => ?_⟩, ⟨?_, fun k hk => ?_⟩, ⟨g4, g5, ?_, ?_⟩, fun n a1 a2 => ?_⟩, fun k hk => ?_⟩, nn, ra⟩
  · show _ = if o = 21 ∧ j = c then none else dP D o j
    by_cases d : o = 21 ∧ j = c
    · rw [if_pos d, d.1, d.2, ← hτ, rd_AA, if_pos rfl, if_pos rfl]
    · rw [if_neg d, ← hτ, rd_AA, ← (g1 o j q).1]
      by_cases d2 : o = 21
      · rw [if_pos (by omega), if_neg (fun e => d ⟨d2, e⟩)]
      · rw [if_neg (by omega)]
  · have e : (if o = 21 ∧ j = c then none else dP D o j) = some x := e
    have d : ¬ (o = 21 ∧ j = c) := fun d => by rw [if_pos d] at e; cases e
    rw [if_neg d] at e
    obtain ⟨r1, r2⟩ := (g1 o j q).2 x e
    have xa : x ≠ a := ne x (by rw [r2]; intro e; cases e; exact d ⟨rfl, rfl⟩)
    exact ⟨nn.row r1, by show (if x = a then _ else pl x) = _; rw [if_neg xa]; exact r2⟩
  · rw [tx _ (by omega)]
    exact g2
  · obtain ⟨r1, r2, r3⟩ := g3 k hk
    have xa : dS D k ≠ a := ne _ (by rw [r2]; intro e; have := congrArg Prod.fst e; simp at this)
    refine ⟨nn.row r1, by show (if dS D k = a then _ else pl (dS D k)) = _; rw [if_neg xa]; exact r2, ?_⟩
    show tA τ (dS D k) 1 = _
    rw [tx _ (by have := r1.2.2.2.1.1; omega)]
    exact r3
  · rw [tx _ (by omega)]
    exact g6
  · rw [tx _ (by omega)]
    exact g7
  · have t := g8 n a1 a2
    have k6 := t.2.2.2.2.2.1
    refine nn.tm (D' := upP D 21 c none) t rfl rfl rfl rfl (fun k hk hm => ?_)
    have r2 := (k6 k hk).2.2.2 hm
    have xa : dX D 1 n k ≠ a := ne _ (by rw [r2]; intro e; have := congrArg Prod.fst e; simp at this; omega)
    show (if dX D 1 n k = a then _ else pl (dX D 1 n k)) = _
    rw [if_neg xa]
    exact r2
  · show isRow b0 τ (if k = m then a else z k) (dW D (if k = m then a else z k)) ∧ (if (if k = m then a else z k) = a then (0, m) else pl (if k = m then a else z k)) = (0, k)
    by_cases d : k = m
    · rw [if_pos d, if_pos rfl, d]
      exact ⟨nn.row ra, rfl⟩
    · obtain ⟨r1, r2⟩ := gz k (by omega)
      rw [if_neg d, if_neg (ne _ (by rw [r2]; intro e; have := congrArg Prod.fst e; simp at this))]
      exact ⟨nn.row r1, r2⟩
/-- the last loose row comes to an empty place in the base -/
theorem CG_toB (h : CG b0 σ C D mo z (m + 1)) {c : Nat} (hc : c < 2034) (e0 : dP D 21 c = none) : CG b0 (sA σ (b0 + 21) c (some (z m))) C (upP D 21 c (some (z m))) mo z m ∧ NR b0 σ (sA σ (b0 + 21) c (some (z m))) ∧ isRow b0 σ (z m) (dW D (z m)) := by
  obtain ⟨h1, h2, h3, pl, ⟨g1, ⟨g2, g3⟩, ⟨g4, g5, g6, g7⟩, g8⟩, gz⟩ := h
  obtain ⟨ra, pa'⟩ := gz m (by omega)
  generalize ea : z m = a at ra pa'
  have iP : isP 21 c := Or.inr (Or.inr ⟨rfl, hc⟩)
  have nn : NR b0 σ (sA σ (b0 + 21) c (some a)) := NR_2 (Or.inl (Or.inr (Or.inr (Or.inl rfl))))
  generalize hτ : sA σ (b0 + 21) c (some a) = τ at nn
  have al := ra.2.2.2.1.1
  have tx : ∀ x, x ≠ b0 + 21 → tA τ x = tA σ x := fun x q => by rw [← hτ]; exact rd_A1 _ _ _ _ q
  have ne : ∀ x, pl x ≠ (0, m) → x ≠ a := fun x q e => q (by rw [e]; exact pa')
  refine ⟨⟨nn.ca h1, FC_rf (nn.fc h2) h2, by rw [nn.psi h2, nn.1, nn.2.1]; exact h3, fun x => if x = a then (21, c) else pl x, ⟨fun o j q => ⟨?_, fun x e => ?_⟩, ⟨?_, fun k hk => ?_⟩, ⟨g4, g5, ?_, ?_⟩, fun n a1 a2 => ?_⟩, fun k hk => ?_⟩, nn, ra⟩
  · show _ = if o = 21 ∧ j = c then some a else dP D o j
    by_cases d : o = 21 ∧ j = c
    · rw [if_pos d, d.1, d.2, ← hτ, rd_AA, if_pos rfl, if_pos rfl]
    · rw [if_neg d, ← hτ, rd_AA, ← (g1 o j q).1]
      by_cases d2 : o = 21
      · rw [if_pos (by omega), if_neg (fun e => d ⟨d2, e⟩)]
      · rw [if_neg (by omega)]
  · have e : (if o = 21 ∧ j = c then some a else dP D o j) = some x := e
    show isRow b0 τ x (dW D x) ∧ (if x = a then (21, c) else pl x) = (o, j)
    by_cases d : o = 21 ∧ j = c
    · rw [if_pos d] at e
      have e : a = x := by cases e; rfl
      subst e
      rw [if_pos rfl, d.1, d.2]
      exact ⟨nn.row ra, rfl⟩
    · rw [if_neg d] at e
      obtain ⟨r1, r2⟩ := (g1 o j q).2 x e
      have xa : x ≠ a := ne x (by rw [r2]; intro e; have := congrArg Prod.fst e; simp at this; rcases q with q | q | q <;> omega)
      rw [if_neg xa]
      exact ⟨nn.row r1, r2⟩
  · rw [tx _ (by omega)]
    exact g2
  · obtain ⟨r1, r2, r3⟩ := g3 k hk
    have xa : dS D k ≠ a := ne _ (by rw [r2]; intro e; have := congrArg Prod.fst e; simp at this)
    refine ⟨nn.row r1, by show (if dS D k = a then _ else pl (dS D k)) = _; rw [if_neg xa]; exact r2, ?_⟩
    show tA τ (dS D k) 1 = _
    rw [tx _ (by have := r1.2.2.2.1.1; omega)]
    exact r3
  · rw [tx _ (by omega)]
    exact g6
  · rw [tx _ (by omega)]
    exact g7
  · have t := g8 n a1 a2
    have k6 := t.2.2.2.2.2.1
    refine nn.tm (D' := upP D 21 c (some a)) t rfl rfl rfl rfl (fun k hk hm => ?_)
    have r2 := (k6 k hk).2.2.2 hm
    have xa : dX D 1 n k ≠ a := ne _ (by rw [r2]; intro e; have e1 : 1000 + n = 0 := congrArg Prod.fst e; omega)
    show (if dX D 1 n k = a then _ else pl (dX D 1 n k)) = _
    rw [if_neg xa]
    exact r2
  · obtain ⟨r1, r2⟩ := gz k (by omega)
    refine ⟨nn.row r1, ?_⟩
    show (if z k = a then _ else pl (z k)) = _
    rw [if_neg (ne _ (by rw [r2]; intro e; have := congrArg Prod.snd e; simp at this; omega))]
    exact r2
/-- a transaction's next row becomes loose -/
theorem CG_frT (h : CG b0 σ C D mo z m) {n : Nat} (n1 : dL D < n) (n2 : n ≤ dH D) (hk : mo n < dT D 8 n) : CG b0 σ C D (upz mo n (mo n + 1)) (upz z m (dX D 1 n (mo n))) (m + 1) := by
  obtain ⟨h1, h2, h3, pl, ⟨g1, ⟨g2, g3⟩, g4, g8⟩, gz⟩ := h
  have t0 := g8 n n1 n2
  obtain ⟨-, -, ra, pa'⟩ := t0.2.2.2.2.2.1 (mo n) hk
  have pa' := pa' (Nat.le_refl _)
  generalize ea : dX D 1 n (mo n) = a at ra pa'
  have ne : ∀ x, pl x ≠ (1000 + n, mo n) → x ≠ a := fun x q e => q (by rw [e]; exact pa')
  refine ⟨h1, h2, h3, fun x => if x = a then (0, m) else pl x, ⟨fun o j q => ⟨(g1 o j q).1, fun x e => ?_⟩, ⟨g2, fun k hk => ?_⟩, g4, fun n' a1 a2 => ?_⟩, fun k hk => ?_⟩
  · obtain ⟨r1, r2⟩ := (g1 o j q).2 x e
    have xa : x ≠ a := ne x (by rw [r2]; intro e; have := congrArg Prod.fst e; simp at this; rcases q with q | q | q <;> omega)
    exact ⟨r1, by show (if x = a then _ else pl x) = _; rw [if_neg xa]; exact r2⟩
  · obtain ⟨r1, r2, r3⟩ := g3 k hk
    have xa : dS D k ≠ a := ne _ (by rw [r2]; intro e; have := congrArg Prod.fst e; simp at this; omega)
    exact ⟨r1, by show (if dS D k = a then _ else pl (dS D k)) = _; rw [if_neg xa]; exact r2, r3⟩
  · have t := g8 n' a1 a2
    have k6 := t.2.2.2.2.2.1
    refine NR_r.tm (D' := D) t rfl rfl rfl rfl (fun k hk hm => ?_)
    have hm : (if n' = n then mo n + 1 else mo n') ≤ k := hm
    have r2 := (k6 k hk).2.2.2 (by
      by_cases c : n' = n
      · rw [if_pos c] at hm
        rw [c]
        omega
      · rw [if_neg c] at hm
        exact hm)
    have xa : dX D 1 n' k ≠ a := ne _ (by
      rw [r2]
      intro e
      have e1 := congrArg Prod.fst e
      have e2 := congrArg Prod.snd e
      simp at e1 e2
      rw [if_pos e1] at hm
      omega)
    show (if dX D 1 n' k = a then _ else pl (dX D 1 n' k)) = _
    rw [if_neg xa]
    exact r2
  · show isRow b0 σ (if k = m then a else z k) (dW D (if k = m then a else z k)) ∧ (if (if k = m then a else z k) = a then (0, m) else pl (if k = m then a else z k)) = (0, k)
    by_cases d : k = m
    · rw [if_pos d, if_pos rfl, d]
      exact ⟨ra, rfl⟩
    · obtain ⟨r1, r2⟩ := gz k (by omega)
      rw [if_neg d, if_neg (ne _ (by rw [r2]; intro e; have := congrArg Prod.fst e; simp at this; omega))]
      exact ⟨r1, r2⟩
end LSE
