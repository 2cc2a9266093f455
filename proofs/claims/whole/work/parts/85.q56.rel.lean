/-! ===== PURE: the whole relation between class and reference ===== -/
abbrev tPh : Type := (Nat → Nat × Nat) → tS → Prop
/-- a form of the tree speaks of the tree alone -/
def goodT (Φ : tPh) : Prop := ∀ w (A B : tS), B 36 = A 36 → B 35 7 = A 35 7 → Φ w A → Φ w B
/-- contents: META as the journal has it is the tree that the reference goes back to -/
def CT (Φ : tPh) (bi : Nat → Nat) (D : tD) (A : tS) (J : tJ) : Prop := ∀ n, A 35 29 ≤ n → n ≤ A 35 28 → ∃ s w, J.2.2.2 (udC A J n) s ∧ MR bi w (mW D (n - A 35 35)) (upR A 36 s) ∧ Φ w (upR A 36 s) ∧ ∀ r, r < 2000 → us (upR A 36 s) r → bi (se (upR A 36 s) r) ≠ 0
/-- what is durable is in the log -/
def LGd (A : tS) (J : tJ) : Prop := ∀ k i, k < A 35 29 - A 35 35 → i < J.1 39 k → A 39 (whB A J k i) = 2 ∧ A 40 (whB A J k i) = J.1 37 k ∧ NV A (whB A J k i)
def LGc (A : tS) (J : tJ) : Prop := ∀ k i, k < A 35 28 - A 35 35 → i < J.1 39 k → cur A (whB A J k i) = (2, J.1 37 k)
/-- the head -/
def HDd (A : tS) : Prop := AV (fun b w i => b = 0 → (w = 1 ∧ A 35 35 ≤ i ∧ i ≤ A 35 28) ∨ (w ≠ 1 ∧ A 35 35 = 0)) A
def HDc (A : tS) : Prop := cur A 0 = (1, A 35 31) ∨ ((cur A 0).1 ≠ 1 ∧ A 35 31 = 0)
/-- which versions are where -/
def rgP (lg b w : Nat) : Prop := (b = 0 ∧ w ≤ 1) ∨ (1 ≤ b ∧ b < 34 ∧ w = 0) ∨ (34 ≤ b ∧ b < 34 + lg ∧ (w = 0 ∨ w = 2)) ∨ (34 + lg ≤ b ∧ (w = 0 ∨ w = 3))
def RG (bi : Nat → Nat) (A : tS) : Prop := AV (fun b w i => rgP (A 35 6) b w ∧ (w = 2 → i ≤ A 35 34) ∧ (w = 3 → bi i ≠ 0 ∧ b < 34 + A 35 6 + A 35 7)) A
/-- stamps against serials -/
def SPJ (sp : Nat → Nat) (C A : tS) : Prop := (∀ x, sp x ≤ C 20 17) ∧ (∀ x, A 35 34 < x → sp x = 0) ∧ (∀ x y, sp x ≠ 0 → sp x = sp y → x = y) ∧ C 20 17 ≤ A 35 34
/-- what stays of memory when power is off -/
def MI (bi : Nat → Nat) (C A : tS) : Prop := ci C ∧ (C 10 7 = 34 + A 35 7 ∧ C 10 8 = A 35 6) ∧ ((∀ x, bi x ≤ C 10 15 ∧ C 10 15 ≤ A 35 34) ∧ (∀ x, A 35 34 < x → bi x = 0) ∧ ∀ x y, bi x ≠ 0 → bi x = bi y → x = y) ∧ ∀ j, j < 32 → C 11 j = 0
def CO (Φ : tPh) (bi sp : Nat → Nat) (C : tS) (D : tD) (A : tS) (J : tJ) : Prop := DR bi sp C D A ∧ JR sp C D A J ∧ JL A J ∧ CT Φ bi D A J ∧ LGd A J ∧ HDd A ∧ RG bi A ∧ SPJ sp C A ∧ MI bi C A ∧ TP C A
/-- power is on, between calls -/
def RO (Φ : tPh) (bi sp : Nat → Nat) (w : Nat → Nat × Nat) (C : tS) (D : tD) (A : tS) (J : tJ) : Prop := CO Φ bi sp C D A J ∧ SR bi w C A ∧ Φ w A ∧ LGc A J ∧ HDc A ∧ (∀ q, q < 65088 → C 100 q = mW D (A 35 28 - A 35 35) q) ∧ A 35 18 = 1 ∧ J.2.1 = A 35 28 - A 35 35 ∧ ∀ b, A 46 b = 0
/-- a record more that never came to its end -/
def UNF (A : tS) (J : tJ) : Prop := J.2.1 = A 35 28 - A 35 35 ∨ (J.2.1 = A 35 28 - A 35 35 + 1 ∧ ∃ i, i < J.1 39 (A 35 28 - A 35 35) ∧ AV (fun b w id => b = whB A J (A 35 28 - A 35 35) i → ¬ (w = 2 ∧ id = J.1 37 (A 35 28 - A 35 35))) A)
/-- power is off -/
def OF (Φ : tPh) (bi sp : Nat → Nat) (C : tS) (D : tD) (A : tS) (J : tJ) : Prop := CO Φ bi sp C D A J ∧ A 35 18 = 0 ∧ UNF A J ∧ (∀ b, b < 6130 → A 46 b ≤ vsN A b) ∧ ∀ b, 6130 ≤ b → A 46 b = 0
section RLS
variable {Φ : tPh} {bi sp : Nat → Nat} {w : Nat → Nat × Nat} {C C' : tS} {D D' : tD} {A B : tS} {J J' : tJ} {n k m q : Nat}
theorem DR_all (h : DR bi sp C D A) (hc : ∀ p, p = 1 ∨ p = 2 ∨ p = 4 ∨ p = 5 ∨ p = 6 ∨ p = 7 ∨ p = 9 → C' p = C p) (d3 : dP D' 3 = dP D 3) (d8 : dP D' 8 = dP D 8) (dw : ∀ o j a, isP o j → (o = 3 ∨ o = 8) → dP D o j = some a → dW D' a = dW D a) (ha : ∀ o, 39 ≤ o → o ≤ 46 → B o = A o) (hf : ∀ q, q = 6 ∨ q = 7 ∨ q = 15 ∨ q = 16 ∨ q = 18 ∨ q = 19 ∨ q = 20 ∨ q = 21 → B 35 q = A 35 q) : DR bi sp C' D' B := by
  obtain ⟨r1, r2, r3, r4, r5, r6⟩ := h
  have vN : ∀ b, vsN B b = vsN A b := fun b => by
    unfold vsN
    rw [ha 42 (by decide) (by decide), hf 15 (by omega), hf 16 (by omega)]
  unfold DR DRx
  rw [hc 1 (by omega), hc 4 (by omega), hc 5 (by omega), hc 6 (by omega), hc 7 (by omega), hc 9 (by omega), hf 6 (by omega), hf 7 (by omega), hf 15 (by omega), hf 16 (by omega), hf 18 (by omega), hf 19 (by omega), hf 20 (by omega), hf 21 (by omega), ha 46 (by decide) (by decide), ha 42 (by decide) (by decide), ha 43 (by decide) (by decide), ha 44 (by decide) (by decide)]
  refine ⟨r1, fun i hi hx => ?_, fun hx => by omega, fun b hb => ?_, fun b hb => by rw [vN]; exact r5 b hb, r6⟩
  · have hs : (A 35 15 + i) % 256 < 256 := Nat.mod_lt _ (by omega)
    obtain ⟨s1, s2, s3, s4⟩ := r2 i hi hx
    unfold SL
    rw [hc 6 (by omega), hc 7 (by omega), hc 9 (by omega), ha 42 (by decide) (by decide), ha 43 (by decide) (by decide), ha 44 (by decide) (by decide), ha 45 (by decide) (by decide)]
    refine ⟨s1, s2, s3, fun e => ?_⟩
    obtain ⟨a, a1, a2⟩ := s4 e
    exact ⟨a, by rw [d8]; exact a1, by rw [dw 8 _ a (Or.inr (Or.inl ⟨rfl, hs⟩)) (Or.inr rfl) a1]; exact a2⟩
  · obtain ⟨s1, s2⟩ := r4 b hb
    unfold KB
    rw [hc 2 (by omega), ha 39 (by decide) (by decide), ha 40 (by decide) (by decide), ha 41 (by decide) (by decide), hf 6 (by omega)]
    refine ⟨s1, fun e => ?_⟩
    obtain ⟨a1, a, a2, a3⟩ := s2 e
    exact ⟨a1, a, by rw [d3]; exact a2, by rw [dw 3 _ a (Or.inl ⟨rfl, hb⟩) (Or.inl rfl) a2]; exact a3⟩
theorem TP_all (h : TP C A) (hc : ∀ p, p = 26 ∨ p = 27 ∨ p = 28 ∨ p = 29 ∨ p = 30 ∨ p = 31 → C' p = C p) (ha : ∀ o, o = 62 ∨ o = 63 ∨ o = 64 ∨ o = 70 → B o = A o) (hf : B 35 57 = A 35 57) : TP C' B := by
  have h0 : lsF B 0 = lsF A 0 ∧ lsN B 0 = lsN A 0 ∧ lsF B 1 = lsF A 1 ∧ lsN B 1 = lsN A 1 := by
    unfold lsF lsN
    refine ⟨?_, ?_, ?_, ?_⟩ <;> simp only [ha 62 (by omega), ha 63 (by omega), ha 64 (by omega)]
  unfold TP
  rw [hc 26 (by omega), hc 27 (by omega), hc 28 (by omega), hc 29 (by omega), hc 30 (by omega), hc 31 (by omega), hf, ha 62 (by omega), ha 63 (by omega), ha 64 (by omega), ha 70 (by omega), h0.1, h0.2.1, h0.2.2.1, h0.2.2.2]
  exact h
/-- retired blocks become free, in both -/
theorem SR_ret {d : Nat} (h : SR bi w C A) (hf : frP d C C') (hd : d ≤ A 35 28) (ba : ∀ o, o ≠ 49 → B o = A o) (b49 : ∀ r, r < A 35 7 → B 49 r = if 1 < A 49 r ∧ A 49 r - 1 ≤ d then 0 else A 49 r) : SR bi w C' B := by
  obtain ⟨f1, f2, f3⟩ := hf
  have c10 : ∀ q, q ≠ 9 → q ≠ 10 → q ≠ 14 → C' 10 q = C 10 q := fun q h1 h2 h3 => f3 10 q (by decide) (by omega)
  have cp : ∀ p, p ≠ 12 → p ≠ 10 → C' p = C p := fun p h1 h2 => funext (fun q => f3 p q h1 (by omega))
  have B36 := ba 36 (by decide)
  have B35 := ba 35 (by decide)
  obtain ⟨⟨z1, z2, z3, z4, z5⟩, z6, z7, z8, z9, z10, z11, z12, z13, z14⟩ := h.zm
  refine ⟨rk_by (ci_cong h.rk.1 (fun q hq => c10 q (by omega) (by omega) (by omega)) (cp 15 (by decide) (by decide)) (cp 16 (by decide) (by decide)) (cp 17 (by decide) (by decide))) f1 (c10 16 (by decide) (by decide) (by decide)) h.rk, ?_, ?_, ?_, ?_, ?_, ?_, ?_⟩
  · have := h.ti
    unfold TI slo hasA leafA us nd pt eZ at this ⊢
    rw [B36, B35]
    exact this
  · rw [cp 11 (by decide) (by decide)]
    have := h.mr
    unfold MR NW BW EW us nd pt eZ pv se at this ⊢
    rw [B36]
    exact this
  · rw [cp 11 (by decide) (by decide)]
    have := h.fb
    unfold FB us nd at this ⊢
    rw [B36, ba 47 (by decide)]
    exact this
  · have := h.bj
    unfold BJ us se at this ⊢
    rw [B36, B35, c10 15 (by decide) (by decide) (by decide)]
    exact this
  · unfold ZM us nbA se
    unfold us se at z7
    unfold nbA at z8
    unfold us at z14
    rw [B36, B35, ba 51 (by decide), ba 52 (by decide), ba 48 (by decide), ba 50 (by decide), ba 71 (by decide), c10 7 (by decide) (by decide) (by decide), c10 8 (by decide) (by decide) (by decide), c10 16 (by decide) (by decide) (by decide), cp 13 (by decide) (by decide), cp 14 (by decide) (by decide), cp 15 (by decide) (by decide), cp 16 (by decide) (by decide), cp 17 (by decide) (by decide), cp 19 (by decide) (by decide), cp 32 (by decide) (by decide)]
    refine ⟨⟨z1, z2, z3, z4, z5⟩, fun r hr => ?_, fun r hr hu => ?_, z8, z9, z10, z11, z12, z13, z14⟩
    · rw [f2, z6 r hr, b49 r hr, z1]
      by_cases u : A 36 (6080 + r * 274) ≠ 0
      · rw [if_pos u, if_neg (by omega), if_pos u]
      · rw [if_neg u, if_neg u]
        by_cases e0 : A 49 r = 0
        · rw [if_pos e0, if_neg (by omega), if_neg (show ¬ (1 < A 49 r ∧ A 49 r - 1 ≤ d) by omega), if_pos e0]
        · rw [if_neg e0]
          by_cases e1 : A 49 r = 1
          · rw [if_pos e1, if_neg (by omega), if_neg (show ¬ (1 < A 49 r ∧ A 49 r - 1 ≤ d) by omega), if_neg e0, if_pos e1]
          · rw [if_neg e1]
            by_cases e2 : 1 < A 49 r ∧ A 49 r - 1 ≤ d
            · rw [if_pos e2, if_pos (by omega), if_pos rfl]
            · rw [if_neg e2, if_neg (by omega), if_neg e0, if_neg e1]
    · have := z7 r hr hu
      rw [b49 r hr, this.2.2, if_neg (by omega)]
      exact ⟨this.1, this.2.1, rfl⟩
  · have := h.ok
    unfold okT at this ⊢
    rw [B36]
    exact this
  · obtain ⟨q1, q2, q3, q4, q5⟩ := h.gh
    unfold GH us nd
    unfold us nd at q2
    unfold nd at q5
    rw [B36, B35, ba 48 (by decide), cp 11 (by decide) (by decide), cp 15 (by decide) (by decide), cp 16 (by decide) (by decide), cp 100 (by decide) (by decide)]
    refine ⟨q1, q2, fun r hr k => ?_, q4, q5⟩
    have := q3 r hr k
    rw [b49 r hr, this, if_neg (by omega)]
end RLS
