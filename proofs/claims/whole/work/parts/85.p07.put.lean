/-! ===== PURE: what was put is undone ===== -/
def upN (m : Nat → Nat) (i x : Nat) : Nat → Nat := fun j => if j = i then x else m j
theorem upN_s (m : Nat → Nat) (i x : Nat) : upN m i x i = x := by simp [upN]
theorem upN_n {m : Nat → Nat} {i j x : Nat} (h : j ≠ i) : upN m i x j = m j := by simp [upN, h]
theorem up2_row (A : Nat → Nat → Nat) (o j x : Nat) : up2 A o j x o = upN (A o) j x := by funext q; simp [up2, upN]
theorem up2_rown {A : Nat → Nat → Nat} {o p j x : Nat} (h : p ≠ o) : up2 A o j x p = A p := by funext q; simp [up2, h]
theorem up2_id (A : Nat → Nat → Nat) (o j : Nat) : up2 A o j (A o j) = A := by
  funext p q
  unfold up2
  split
  · rename_i e; subst e
    split
    · rename_i e; subst e; rfl
    · rfl
  · rfl
/-- n changes undone down to the first p -/
def und (a w : Nat → Nat) (p : Nat) : Nat → (Nat → Nat) → Nat → Nat
  | 0, m => m
  | n + 1, m => if p ≤ n then und a w p n (upN m (a n) (w n)) else m
theorem und_congr {a w a' w' : Nat → Nat} {p : Nat} : ∀ n m, (∀ i, i < n → a i = a' i ∧ w i = w' i) → und a w p n m = und a' w' p n m
  | 0, _, _ => rfl
  | n + 1, m, h => by
    unfold und
    rw [(h n (Nat.lt_succ_self n)).1, (h n (Nat.lt_succ_self n)).2, und_congr n _ (fun i hi => h i (Nat.lt_succ_of_lt hi))]
theorem und_push {a w : Nat → Nat} {p n x v : Nat} {m : Nat → Nat} (h : p ≤ n) : und (upN a n x) (upN w n (m x)) p (n + 1) (upN m x v) = und a w p n m := by
  have e0 : und (upN a n x) (upN w n (m x)) p (n + 1) (upN m x v) = if p ≤ n then und (upN a n x) (upN w n (m x)) p n (upN (upN m x v) (upN a n x n) (upN w n (m x) n)) else upN m x v := rfl
  rw [e0, if_pos h, upN_s, upN_s]
  have e : upN (upN m x v) x (m x) = m := by
    funext j
    by_cases hj : j = x
    · subst hj; rw [upN_s]
    · rw [upN_n hj, upN_n hj]
  rw [e]
  exact und_congr (a' := a) (w' := w) n m fun i hi => ⟨upN_n (Nat.ne_of_lt hi), upN_n (Nat.ne_of_lt hi)⟩
/-- how large what stands at a place of the reference's tree can be: nodes' places, rooms' places -/
def bN (w : Nat) : Nat := if w = 0 then 4 else if w = 1 then 272385 else if w = 2 then 256 else if w = 3 then 64 else if w = 4 then 81 else if w < 85 then 128 else 2001
def bR (w : Nat) : Nat := if w = 0 then 2 else if w = 1 then 1048576 else if w < 34 then 2001 else if (w - 34) % 30 = 0 then 65 else if (w - 34) % 30 = 1 then 29 else 128
def bT (j : Nat) : Nat := if j < 6080 then bN (j % 95) else bR ((j - 6080) % 274)
def okT (A : Nat → Nat → Nat) : Prop := ∀ j, A 36 j < bT j
theorem bT_n {n w : Nat} (hn : n < 64) (hw : w < 95) : bT (n * 95 + w) = bN w := by
  unfold bT
  rw [if_pos (by omega), show (n * 95 + w) % 95 = w by omega]
theorem bT_r {w : Nat} (r : Nat) (hw : w < 274) : bT (6080 + r * 274 + w) = bR w := by
  unfold bT
  rw [if_neg (by omega), show (6080 + r * 274 + w - 6080) % 274 = w by omega]
theorem okT_up {A : Nat → Nat → Nat} {j x : Nat} (h : okT A) (hx : x < bT j) : okT (up2 A 36 j x) := by
  intro q
  rw [up2_row]
  unfold upN
  split
  · rename_i e; rw [e]; exact hx
  · exact h q
theorem okT_oth {A : Nat → Nat → Nat} {o j x : Nat} (h : okT A) (ho : o ≠ 36) : okT (up2 A o j x) := by
  intro q
  rw [up2_rown (fun e => ho e.symm)]
  exact h q
theorem bT_le (j : Nat) : bT j ≤ 1048576 := by
  unfold bT bN bR
  repeat (first | omega | split)
abbrev tJ : Type := (Nat → Nat → Nat) × Nat × Nat × (Nat → (Nat → Nat) → Prop)
def mix (U B : Nat → Nat → Nat) : Nat → Nat → Nat := fun f => if f < 4 then U f else B f
/-- how many rooms are used -/
def usd (A : Nat → Nat → Nat) : Nat := cn (fun r => A 36 (6080 + r * 274) != 0) 0 2000
theorem cn_congr {p q : Nat → Bool} : ∀ m k, (∀ i, k ≤ i → i < k + m → p i = q i) → cn p k m = cn q k m
  | 0, _, _ => rfl
  | m + 1, k, h => by
    unfold cn
    rw [h k (Nat.le_refl _) (by omega), cn_congr m (k + 1) (fun i h1 h2 => h i (by omega) (by omega))]
theorem cn_on {p q : Nat → Bool} {x : Nat} (hp : p x = false) (hq : q x = true) : ∀ m k, k ≤ x → x < k + m → (∀ i, k ≤ i → i < k + m → i ≠ x → p i = q i) → cn q k m = cn p k m + 1
  | 0, k, h1, h2, _ => by omega
  | m + 1, k, h1, h2, h => by
    unfold cn
    by_cases e : x = k
    · subst e
      rw [hp, hq, cn_congr (p := q) (q := p) m (x + 1) (fun i g1 g2 => (h i (by omega) (by omega) (by omega)).symm)]
      simp
      omega
    · rw [h k (Nat.le_refl _) (by omega) (fun q => e q.symm), cn_on hp hq m (k + 1) (by omega) (by omega) (fun i g1 g2 g3 => h i (by omega) (by omega) g3)]
      omega
theorem usd_oth {A : Nat → Nat → Nat} {j v : Nat} (h : ∀ r, j ≠ 6080 + r * 274) : usd (up2 A 36 j v) = usd A := by
  unfold usd
  exact cn_congr _ _ fun i _ _ => by rw [up2_j (fun e => h i e.symm)]
theorem usd_obj {A : Nat → Nat → Nat} {o j v : Nat} (h : o ≠ 36) : usd (up2 A o j v) = usd A := by
  unfold usd
  exact cn_congr _ _ fun i _ _ => by rw [up2_o (fun e => h e.symm)]
theorem usd_set {A : Nat → Nat → Nat} {r : Nat} (hr : r < 2000) (h : A 36 (6080 + r * 274) = 0) : usd (up2 A 36 (6080 + r * 274) 1) = usd A + 1 := by
  unfold usd
  refine cn_on (x := r) (by simp [h]) (by simp [up2]) _ _ (Nat.zero_le _) (by omega) fun i _ _ hi => ?_
  rw [up2_j (by omega)]
theorem usd_clr {A : Nat → Nat → Nat} {r : Nat} (hr : r < 2000) (h : A 36 (6080 + r * 274) = 1) : usd (up2 A 36 (6080 + r * 274) 0) + 1 = usd A := by
  unfold usd
  refine (cn_on (x := r) (by simp [up2]) (by simp [h]) _ _ (Nat.zero_le _) (by omega) fun i _ _ hi => ?_).symm
  rw [up2_j (by omega)]
/-- the reference's tree: its fixed cells hold A, its records are J's, at most N changes can be undone, and J's marks are found by undoing -/
def RM (b0 : Nat) (J : tJ) (σ : tM) (A : Nat → Nat → Nat) (N : Nat) : Prop := RA b0 σ A ∧ okT A ∧ ∃ ad ln U un, RD0 b0 σ ad ln (mix U J.1) (cntD un J.2.1 J.2.2.1) un J.2.1 J.2.2.1 ∧ (ln 2 = ln 3 ∧ ∀ f, 37 ≤ f → f ≤ 43 → ln f = 64) ∧ ln 2 ≤ 131072 ∧ un + 2 * usd A ≤ N ∧ (∀ i, i < un → U 2 i < 554080 ∧ U 3 i < bT (U 2 i)) ∧ ∀ p s, J.2.2.2 p s → p ≤ un ∧ und (U 2) (U 3) p un (A 36) = s
section RQ
variable {b0 fu : Nat} {σ τ : tM} {A B : Nat → Nat → Nat} {ad ln c : Nat → Nat} {un nr nl ns N : Nat} {J : tJ}
theorem RM.ra (h : RM b0 J σ A N) : RA b0 σ A := h.1
theorem RM.ok (h : RM b0 J σ A N) : okT A := h.2.1
/-- a field of the reference that is free to change -/
theorem layR_oth {f : Nat} {v : Option Nat} (h : LayR b0 σ) (hf : isD f = true ∨ f = 49 ∨ f = 50) : LayR b0 (sA σ (b0 + 35) f v) := by
  have g : ∀ x y, ¬ (x = b0 + 35 ∧ y = f) → tA (sA σ (b0 + 35) f v) x y = tA σ x y := fun x y hne => by
    rw [rd_AA]
    split
    · split
      · rename_i e1 e2; exact absurd ⟨e1, e2⟩ hne
      · rfl
    · rfl
  refine layR_of h (Nat.le_refl _) (fun a _ => rfl) ?_
  have hf2 : f = 2 ∨ f = 3 ∨ (37 ≤ f ∧ f ≤ 44) ∨ f = 49 ∨ f = 50 := by
    rcases hf with e | e
    · have := isD_of e; omega
    · omega
  refine ⟨?_, ?_, ?_, ?_, ?_, ?_, ?_, ?_, ?_, ?_, ?_, ?_, ?_, ?_, ?_, ?_, ?_, ?_, ?_, ?_, ?_, ?_, ?_, ?_, ?_⟩ <;> exact g _ _ (by omega)
theorem layR_new {k : Nat ⊕ (Nat × Nat)} {n : Nat} (h : LayR b0 σ) : LayR b0 (sN σ (b0 + tn σ) k n) := by
  have h0 : 74 ≤ tn σ := h.1
  have g : ∀ x y, x < 74 → tA (sN σ (b0 + tn σ) k n) (b0 + x) y = tA σ (b0 + x) y := fun x y hx => by rw [rd_AN, if_neg (by omega)]
  refine layR_of h (Nat.le_succ _) (fun a ha => by rw [rd_kN, if_neg (by omega)]) ?_
  refine ⟨?_, ?_, ?_, ?_, ?_, ?_, ?_, ?_, ?_, ?_, ?_, ?_, ?_, ?_, ?_, ?_, ?_, ?_, ?_, ?_, ?_, ?_, ?_, ?_, ?_⟩ <;> exact g _ _ (by omega)
/-- one of the arrays twice as long -/
def grown (b0 : Nat) (σ : tM) (a f n : Nat) : tM := sA (sIr (sN σ (b0 + tn σ) (.inr (0, 2 * n)) (2 * n)) (b0 + tn σ) (va_cpy (tI σ a) (fun _ => 0) 0 0 n)) (b0 + 35) f (some (b0 + tn σ))
theorem grown_ra (h : RA b0 σ A) {a f n : Nat} (hf : isD f = true) : RA b0 (grown b0 σ a f n) A := by
  have h0 : 74 ≤ tn σ := h.1.1
  refine RA_same h (layR_oth (σ := sIr (sN σ (b0 + tn σ) (.inr (0, 2 * n)) (2 * n)) (b0 + tn σ) (va_cpy (tI σ a) (fun _ => 0) 0 0 n)) (layR_new h.1) (Or.inl hf)) fun o j e => ?_
  have := isA_lt e
  show tI (sIr (sN σ (b0 + tn σ) (.inr (0, 2 * n)) (2 * n)) (b0 + tn σ) (va_cpy (tI σ a) (fun _ => 0) 0 0 n)) (b0 + o) j = _
  rw [rd_Ir, if_neg (by omega), rd_IN, if_neg (by omega)]
theorem grown_rd (h : RA b0 σ A) (hd : RD0 b0 σ ad ln B c un ns nl) {f : Nat} (hf : isD f = true) (hl : 2 * ln f ≤ 524288) : RD0 b0 (grown b0 σ (ad f) f (ln f)) (upN ad f (b0 + tn σ)) (upN ln f (2 * ln f)) B c un ns nl := by
  have h0 : 74 ≤ tn σ := h.1.1
  obtain ⟨h1, h2, h3, h4⟩ := hd
  have gA : ∀ y, y ≠ f → tA (grown b0 σ (ad f) f (ln f)) (b0 + 35) y = tA σ (b0 + 35) y := fun y hy => by
    unfold grown
    rw [rd_AAj hy]
    show tA (sN σ (b0 + tn σ) (.inr (0, 2 * ln f)) (2 * ln f)) (b0 + 35) y = _
    rw [rd_AN, if_neg (by omega)]
  have gI : ∀ x, x ≠ b0 + tn σ → tI (grown b0 σ (ad f) f (ln f)) x = tI σ x := fun x hx => by
    show tI (sIr (sN σ (b0 + tn σ) (.inr (0, 2 * ln f)) (2 * ln f)) (b0 + tn σ) (va_cpy (tI σ (ad f)) (fun _ => 0) 0 0 (ln f))) x = _
    rw [rd_Ir, if_neg hx, rd_IN, if_neg hx]
  have gk : ∀ x, x ≠ b0 + tn σ → tk (grown b0 σ (ad f) f (ln f)) x = tk σ x := fun x hx => by
    show tk (sN σ (b0 + tn σ) (.inr (0, 2 * ln f)) (2 * ln f)) x = _
    rw [rd_kN, if_neg hx]
  have gn : tn (grown b0 σ (ad f) f (ln f)) = tn σ + 1 := rfl
  refine ⟨fun g hg => ?_, fun g k hg hk e => ?_, ?_, ?_⟩
  · by_cases e : g = f
    · subst e
      obtain ⟨a1, a2, a3, a4, a5, a6, a7, a8⟩ := h1 g hg
      rw [upN_s, upN_s, gn]
      refine ⟨rd_AAs _ _ _ _, ?_, by omega, Or.inl (by omega), by omega, hl, by omega, fun i hi => ?_⟩
      · show tk (sN σ (b0 + tn σ) (.inr (0, 2 * ln g)) (2 * ln g)) _ = _
        rw [rd_kN, if_pos rfl]
      · show tI (sIr (sN σ (b0 + tn σ) (.inr (0, 2 * ln g)) (2 * ln g)) (b0 + tn σ) (va_cpy (tI σ (ad g)) (fun _ => 0) 0 0 (ln g))) (b0 + tn σ) i = _ ∧ _
        rw [rd_Ir, if_pos rfl, sb_cpy0 (by omega)]
        exact a8 i hi
    · obtain ⟨a1, a2, a3, a4, a5, a6, a7, a8⟩ := h1 g hg
      rw [upN_n e, upN_n e, gn]
      exact ⟨(gA g e).trans a1, (gk _ (by omega)).trans a2, by omega, a4, a5, a6, a7, fun i hi => by rw [gI _ (by omega)]; exact a8 i hi⟩
  · by_cases e1 : g = f
    · by_cases e2 : k = f
      · omega
      · subst e1
        rw [upN_s, upN_n e2] at e
        have := (h1 k hk).2.2.1
        omega
    · by_cases e2 : k = f
      · subst e2
        rw [upN_s, upN_n e1] at e
        have := (h1 g hg).2.2.1
        omega
      · rw [upN_n e1, upN_n e2] at e
        exact h2 g k hg hk e
  · rw [gI _ (by omega)]
    exact h3
  · have : f ≠ 49 ∧ f ≠ 50 := by have := isD_of hf; omega
    rw [gA 49 (fun e => this.1 e.symm), gA 50 (fun e => this.2 e.symm)]
    exact h4
end RQ
