/-! ===== PURE: a block taken from its place and freed, in both: SR stays ===== -/
def deCt (C A : tS) (n s : Nat) (me : Bool) : tS := relC (touC (up2 C 11 (lcW A n s) 0) (tcC A n s)) (34 + (slo A n s - 1)) me
def deAt (A : tS) (n s : Nat) (me : Bool) : tS := freeA (up2 (up2 A 36 (lcA A n s) 0) 51 (nbA A (tcC A n s)) 1) (slo A n s - 1) me
section SRD
variable {bi : Nat → Nat} {w : Nat → Nat × Nat} {C A B : tS} {W V : Nat → Nat} {n s : Nat} {me : Bool}
theorem rl_rows {c : Nat} (hc : 34 ≤ c ∧ c < C 10 7) (h12 : C 12 c = 0) : (∀ q, relC C c me 11 q = if q = 32 + (c - 34) / 64 then setF (C 11 q) ((c - 34) % 64) 1 0 else C 11 q) ∧
    (∀ k, relC C c me 12 k = if k = c then C 10 16 + 1 else C 12 k) ∧ (∀ k, relC C c me 15 k = 0 ↔ (me = true ∧ k = c) ∨ (k ≠ 1 ∧ C 15 k = 0)) ∧ (∀ k, relC C c me 16 k = 0 ↔ ¬ (me = true ∧ k = c) ∧ C 16 k = 0) ∧
    (∀ k, relC C c me 17 k = 0 ↔ k = c ∨ C 17 k = 0) ∧ (∀ p, p ≠ 10 → p ≠ 11 → p ≠ 12 → p ≠ 15 → p ≠ 16 → p ≠ 17 → relC C c me p = C p) := by
  generalize hX0 : mrkC (up2 (up2 C 12 c (C 10 16 + 1)) 10 10 (C 10 10 + 1)) c false = X0
  generalize hX1 : touC X0 1 = X1
  generalize hX2 : cleC X1 c = X2
  have oo : relC C c me = if me = true then rvkC X2 c else X2 := by
    unfold relC
    rw [if_pos ⟨hc.1, hc.2, h12⟩, hX0, hX1, hX2]
  have a7 : X0 10 7 = C 10 7 := by rw [← hX0, mrk_o (by decide), up2_j (by decide), up2_o (by decide)]
  have b7 : X1 10 7 = C 10 7 := by rw [← hX1, tou_10 (by decide), a7]
  have ap : ∀ p, p ≠ 10 → p ≠ 11 → p ≠ 12 → X0 p = C p := fun p p0 p1 p2 => by rw [← hX0, mrk_o p1, up2_rown p0, up2_rown p2]
  have a12 : ∀ k, X0 12 k = if k = c then C 10 16 + 1 else C 12 k := fun k => by
    rw [← hX0, mrk_o (by decide), up2_o (by decide)]
    by_cases d : k = c
    · rw [d, up2_s, if_pos rfl]
    · rw [up2_j d, if_neg d]
  have a11 : ∀ q, X0 11 q = if q = 32 + (c - 34) / 64 then setF (C 11 q) ((c - 34) % 64) 1 0 else C 11 q := fun q => by
    rw [← hX0]
    unfold mrkC
    by_cases d : q = 32 + (c - 34) / 64
    · rw [d, up2_s, if_pos rfl, up2_o (by decide), up2_o (by decide)]
      rfl
    · rw [up2_j d, if_neg d, up2_o (by decide), up2_o (by decide)]
  have b15 : ∀ k, X1 15 k = 0 ↔ k ≠ 1 ∧ C 15 k = 0 := fun k => by
    rw [← hX1, tou_15 (by omega) (by rw [a7]; omega), ap 15 (by decide) (by decide) (by decide)]
  have bp : ∀ p, p ≠ 10 → p ≠ 15 → X1 p = X0 p := fun p p0 p1 => by rw [← hX1, tou_o p0 p1]
  have cp : ∀ p, p ≠ 10 → p ≠ 17 → X2 p = X1 p := fun p p0 p1 => by
    rw [← hX2]
    unfold cleC
    split
    · rw [up2_rown p0, up2_rown p1]
    · rfl
  have c17 : ∀ k, X2 17 k = 0 ↔ k = c ∨ C 17 k = 0 := fun k => by
    have e17 : X1 17 k = C 17 k := by rw [bp 17 (by decide) (by decide), ap 17 (by decide) (by decide) (by decide)]
    rw [← hX2, ← e17]
    unfold cleC
    by_cases d : X1 17 c = 0
    · rw [if_neg (fun q => q.2.2 d)]
      constructor
      · exact Or.inr
      · rintro (e | e)
        · rw [e]; exact d
        · exact e
    · rw [if_pos ⟨by omega, by rw [b7]; exact hc.2, d⟩, up2_o (by decide)]
      by_cases e : k = c
      · rw [e, up2_s]
        exact ⟨fun _ => Or.inl rfl, fun _ => rfl⟩
      · rw [up2_j e]
        exact ⟨Or.inr, fun q => q.resolve_left e⟩
  have rvp : ∀ p, p ≠ 10 → p ≠ 15 → p ≠ 16 → rvkC X2 c p = X2 p := fun p p0 p1 p2 => by
    have r0 : rv0 X2 c p = X2 p := by
      unfold rv0
      split
      · rfl
      · rw [up2_rown p0, up2_rown p1]
    unfold rvkC
    split
    · rw [up2_rown p0, up2_rown p2, r0]
    · exact r0
  have rv15 : ∀ k, rvkC X2 c 15 k = if k = c then 0 else X2 15 k := fun k => by
    have r0 : rv0 X2 c 15 k = if k = c then 0 else X2 15 k := by
      unfold rv0
      by_cases d : X2 15 c = 0
      · rw [if_pos d]
        by_cases e : k = c
        · rw [if_pos e, e, d]
        · rw [if_neg e]
      · rw [if_neg d, up2_o (by decide)]
        by_cases e : k = c
        · rw [if_pos e, e, up2_s]
        · rw [if_neg e, up2_j e]
    unfold rvkC
    split
    · rw [up2_o (by decide), up2_o (by decide), r0]
    · exact r0
  have rv16 : ∀ k, rvkC X2 c 16 k = 0 ↔ k ≠ c ∧ X2 16 k = 0 := fun k => by
    have r0 : rv0 X2 c 16 = X2 16 := by
      unfold rv0
      split
      · rfl
      · rw [up2_rown (by decide), up2_rown (by decide)]
    unfold rvkC
    by_cases d : rv0 X2 c 16 c = 0
    · rw [if_pos d, up2_o (by decide)]
      by_cases e : k = c
      · rw [e, up2_s]
        exact ⟨fun q => by omega, fun q => absurd rfl q.1⟩
      · rw [up2_j e, r0]
        exact ⟨fun q => ⟨e, q⟩, fun q => q.2⟩
    · rw [if_neg d, r0]
      rw [r0] at d
      constructor
      · intro q
        exact ⟨fun e => d (by rw [← e]; exact q), q⟩
      · exact fun q => q.2
  have x15 : ∀ k, X2 15 k = 0 ↔ k ≠ 1 ∧ C 15 k = 0 := fun k => by rw [cp 15 (by decide) (by decide), b15]
  have x16 : X2 16 = C 16 := by rw [cp 16 (by decide) (by decide), bp 16 (by decide) (by decide), ap 16 (by decide) (by decide) (by decide)]
  have xp : ∀ p, p ≠ 10 → p ≠ 15 → p ≠ 17 → X2 p = X0 p := fun p p0 p1 p2 => by rw [cp p p0 p2, bp p p0 p1]
  rw [oo]
  cases me with
  | true =>
    rw [if_pos rfl]
    refine ⟨fun q => by rw [rvp 11 (by decide) (by decide) (by decide), xp 11 (by decide) (by decide) (by decide), a11], fun k => by rw [rvp 12 (by decide) (by decide) (by decide), xp 12 (by decide) (by decide) (by decide), a12], fun k => ?_, fun k => ?_, fun k => by rw [rvp 17 (by decide) (by decide) (by decide), c17], fun p p0 p1 p2 p3 p4 p5 => by rw [rvp p p0 p3 p4, xp p p0 p3 p5, ap p p0 p1 p2]⟩
    · rw [rv15]
      by_cases e : k = c
      · rw [if_pos e]
        exact ⟨fun _ => Or.inl ⟨rfl, e⟩, fun _ => rfl⟩
      · rw [if_neg e, x15]
        exact ⟨Or.inr, fun q => q.resolve_left (fun y => e y.2)⟩
    · rw [rv16, x16]
      exact ⟨fun q => ⟨fun y => q.1 y.2, q.2⟩, fun q => ⟨fun e => q.1 ⟨rfl, e⟩, q.2⟩⟩
  | false =>
    rw [if_neg (by decide)]
    refine ⟨fun q => by rw [xp 11 (by decide) (by decide) (by decide), a11], fun k => by rw [xp 12 (by decide) (by decide) (by decide), a12], fun k => ?_, fun k => ?_, fun k => c17 k, fun p p0 p1 p2 p3 p4 p5 => by rw [xp p p0 p3 p5, ap p p0 p1 p2]⟩
    · rw [x15]
      exact ⟨Or.inr, fun q => q.resolve_left (fun y => by cases y.1)⟩
    · rw [x16]
      exact ⟨fun q => ⟨fun y => (by cases y.1), q⟩, fun q => q.2⟩
theorem fA_rows {r : Nat} : (∀ j, freeA A r me 36 j = if j = 6080 + r * 274 then 0 else A 36 j) ∧ (∀ q, freeA A r me 48 q = if q = r then 0 else A 48 q) ∧ (∀ q, freeA A r me 49 q = if q = r then 1 else A 49 q) ∧
    (∀ b, freeA A r me 51 b = 0 ↔ (me = true ∧ b = 34 + A 35 6 + r) ∨ (b ≠ 1 ∧ A 51 b = 0)) ∧ (∀ b, freeA A r me 52 b = 0 ↔ ¬ (me = true ∧ b = 34 + A 35 6 + r) ∧ A 52 b = 0) ∧
    (∀ p, p ≠ 36 → p ≠ 48 → p ≠ 49 → p ≠ 51 → p ≠ 52 → freeA A r me p = A p) := by
  generalize hX : up2 (up2 (up2 (up2 A 36 (6080 + r * 274) 0) 51 1 1) 49 r 1) 48 r 0 = X
  have oo : freeA A r me = bif me then up2 (up2 X 51 (34 + A 35 6 + r) 0) 52 (34 + A 35 6 + r) 1 else X := by
    unfold freeA
    rw [hX]
  have x36 : ∀ j, X 36 j = if j = 6080 + r * 274 then 0 else A 36 j := fun j => by
    rw [← hX, up2_o (by decide), up2_o (by decide), up2_o (by decide)]
    by_cases d : j = 6080 + r * 274
    · rw [d, up2_s, if_pos rfl]
    · rw [up2_j d, if_neg d]
  have x48 : ∀ q, X 48 q = if q = r then 0 else A 48 q := fun q => by
    rw [← hX]
    by_cases d : q = r
    · rw [d, up2_s, if_pos rfl]
    · rw [up2_j d, if_neg d, up2_o (by decide), up2_o (by decide), up2_o (by decide)]
  have x49 : ∀ q, X 49 q = if q = r then 1 else A 49 q := fun q => by
    rw [← hX, up2_o (by decide)]
    by_cases d : q = r
    · rw [d, up2_s, if_pos rfl]
    · rw [up2_j d, if_neg d, up2_o (by decide), up2_o (by decide)]
  have x51 : ∀ b, X 51 b = 0 ↔ b ≠ 1 ∧ A 51 b = 0 := fun b => by
    rw [← hX, up2_o (by decide), up2_o (by decide)]
    by_cases d : b = 1
    · rw [d, up2_s]
      exact ⟨fun q => by omega, fun q => absurd rfl q.1⟩
    · rw [up2_j d, up2_o (by decide)]
      exact ⟨fun q => ⟨d, q⟩, fun q => q.2⟩
  have xp : ∀ p, p ≠ 36 → p ≠ 48 → p ≠ 49 → p ≠ 51 → X p = A p := fun p p0 p1 p2 p3 => by
    rw [← hX, up2_rown p1, up2_rown p2, up2_rown p3, up2_rown p0]
  rw [oo]
  cases me with
  | true =>
    rw [cond_true]
    refine ⟨fun j => by rw [up2_o (by decide), up2_o (by decide), x36], fun q => by rw [up2_o (by decide), up2_o (by decide), x48], fun q => by rw [up2_o (by decide), up2_o (by decide), x49], fun b => ?_, fun b => ?_, fun p p0 p1 p2 p3 p4 => by rw [up2_rown p4, up2_rown p3, xp p p0 p1 p2 p3]⟩
    · rw [up2_o (by decide)]
      by_cases d : b = 34 + A 35 6 + r
      · rw [d, up2_s]
        exact ⟨fun _ => Or.inl ⟨rfl, rfl⟩, fun _ => rfl⟩
      · rw [up2_j d, x51]
        exact ⟨Or.inr, fun q => q.resolve_left (fun y => d y.2)⟩
    · by_cases d : b = 34 + A 35 6 + r
      · rw [d, up2_s]
        exact ⟨fun q => by omega, fun q => absurd ⟨rfl, rfl⟩ q.1⟩
      · rw [up2_j d, up2_o (by decide), xp 52 (by decide) (by decide) (by decide) (by decide)]
        exact ⟨fun q => ⟨fun y => d y.2, q⟩, fun q => q.2⟩
  | false =>
    rw [cond_false]
    refine ⟨x36, x48, x49, fun b => ?_, fun b => ?_, fun p p0 p1 p2 p3 _ => xp p p0 p1 p2 p3⟩
    · rw [x51]
      exact ⟨Or.inr, fun q => q.resolve_left (fun y => by cases y.1)⟩
    · rw [xp 52 (by decide) (by decide) (by decide) (by decide)]
      exact ⟨fun q => ⟨fun y => (by cases y.1), q⟩, fun q => q.2⟩
end SRD
