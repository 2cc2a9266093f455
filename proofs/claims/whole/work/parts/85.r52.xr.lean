/-! ===== PURE: what a commit leaves, whether power fails in it or not ===== -/
def oX (X : tS ⊕ tS) : tS := match X with | .inl s => s | .inr s => s
/-- rows and numbers stay; serials, transactions, acts are at most so many more -/
def XR (z : Bool) (a c m : Nat) (A B : tS) : Prop := ∀ K, dsk A (K + m) → dsk B K ∧ (∀ o, o ≠ 35 → o ≠ 49 → ¬ (z = true ∧ 50 ≤ o ∧ o ≤ 52) → (o < 39 ∨ 46 < o) → B o = A o) ∧ (∀ q, q = 0 ∨ q = 6 ∨ q = 7 ∨ q = 57 → B 35 q = A 35 q) ∧ (A 35 34 ≤ B 35 34 ∧ B 35 34 ≤ A 35 34 + a) ∧ (A 35 28 ≤ B 35 28 ∧ B 35 28 ≤ A 35 28 + c)
section XRS
variable {Φ : tPh} {b0 : Nat} {σ : tM} {bi sp : Nat → Nat} {w : Nat → Nat × Nat} {C : tS} {D : tD} {A B E : tS} {J J' : tJ} {K t un n a a' c c' m m' b wh id : Nat} {z z' : Bool}
theorem XR_r : XR false 0 0 0 A A := fun K h => ⟨h, fun _ _ _ _ _ => rfl, fun _ _ => rfl, ⟨Nat.le_refl _, Nat.le_refl _⟩, Nat.le_refl _, Nat.le_refl _⟩
theorem XR_t (h : XR z a c m A B) (g : XR z' a' c' m' B E) : XR (z || z') (a + a') (c + c') (m + m') A E := fun K d => by
  obtain ⟨h1, h2, h3, h4, h5⟩ := h (K + m') (by rw [show K + m' + m = K + (m + m') by omega]; exact d)
  obtain ⟨g1, g2, g3, g4, g5⟩ := g K h1
  exact ⟨g1, fun o x y u v => by rw [g2 o x y (fun k => u ⟨by rw [k.1, Bool.or_true], k.2⟩) v, h2 o x y (fun k => u ⟨by rw [k.1, Bool.true_or], k.2⟩) v], fun q x => by rw [g3 q x, h3 q x], ⟨by omega, by omega⟩, by omega, by omega⟩
theorem XR_le (h : XR z a c m A B) (h1 : a ≤ a') (h2 : c ≤ c') (h3 : m ≤ m') : XR z a' c' m' A B := fun K d => by
  obtain ⟨x1, x2, x3, x4, x5⟩ := h K (dsk_le d (by omega))
  exact ⟨x1, x2, x3, ⟨by omega, by omega⟩, by omega, by omega⟩
theorem XR_dk (h : dsk A (K + m) → dkO A B) (d : dsk A (K + m) → dsk B K) (dd : dsk A (K + m)) : dsk B K ∧ (∀ o, o ≠ 35 → o ≠ 49 → ¬ (false = true ∧ 50 ≤ o ∧ o ≤ 52) → (o < 39 ∨ 46 < o) → B o = A o) ∧ (∀ q, q = 0 ∨ q = 6 ∨ q = 7 ∨ q = 57 → B 35 q = A 35 q) ∧ (A 35 34 ≤ B 35 34 ∧ B 35 34 ≤ A 35 34 + 0) ∧ (A 35 28 ≤ B 35 28 ∧ B 35 28 ≤ A 35 28 + 0) := by
  obtain ⟨k1, k2⟩ := h dd
  have e34 := k2 34 (by decide) (by decide) (by decide) (by decide) (by decide) (by decide)
  have e28 := k2 28 (by decide) (by decide) (by decide) (by decide) (by decide) (by decide)
  exact ⟨d dd, fun o x _ _ y => k1 o x y, fun q hq => k2 q (by omega) (by omega) (by omega) (by omega) (by omega) (by omega), ⟨by omega, by omega⟩, by omega, by omega⟩
theorem dsk_pow (h : dsk A K) : dsk (powA A) K := by
  have f : ∀ q, q ≠ 18 → q ≠ 19 → powA A 35 q = A 35 q := fun q h1 h2 => by
    unfold powA
    rw [fl_row (by decide), up2_j h2, up2_j h1]
  refine dsk_cg h (fun q hq => f q (by omega) (by omega)) ?_ ?_
  · unfold powA
    rw [fl_row (by decide), up2_rown (by decide), up2_rown (by decide)]
  · unfold powA
    rw [fl_row (by decide), up2_rown (by decide), up2_rown (by decide)]
theorem XR_pow : XR false 0 0 0 A (powA A) := fun K => XR_dk (fun _ => dk_pow) dsk_pow
theorem oX_r (B : tS) : oX (.inr B) = B := rfl
theorem oX_l (B : tS) : oX (.inl B) = B := rfl
theorem XR_p1 : XR false 0 0 1 A (powA A) := XR_le (XR_pow (A := A)) (Nat.le_refl _) (Nat.le_refl _) (by omega)
theorem XR_ver (hb : dsk A 0 → b < 34 + A 35 6 + A 35 7) (hw : wh = 3 → 34 + A 35 6 ≤ b) : XR false 0 0 1 A (oX (verX A b wh id)) := by
  by_cases c : A 35 19 = 1
  · have e : verX A b wh id = .inr (powA A) := if_pos c
    rw [e, oX_r]
    exact XR_p1
  · have e : verX A b wh id = .inl (verA A b wh id) := if_neg c
    rw [e, oX_l]
    exact fun K => XR_dk (fun _ => dk_ver) (fun d => dsk_ver d (hb (dsk_le d (by omega))) hw)
theorem XR_flu : XR false 0 0 1 A (oX (fluX A)) := by
  by_cases c : A 35 19 = 1
  · have e : fluX A = .inr (powA A) := if_pos c
    rw [e, oX_r]
    exact XR_p1
  · have e : fluX A = .inl (fluA A) := if_neg c
    rw [e, oX_l]
    exact fun K => XR_dk (fun d => dk_flu d.2.2.1) dsk_flu
/-- numbers of the journal alone -/
theorem XR_q {q v : Nat} (h0 : q ≠ 0) (h6 : q ≠ 6) (h7 : q ≠ 7) (h57 : q ≠ 57) (h34 : q ≠ 34) (h28 : q ≠ 28) (h15 : q < 15 ∨ 21 < q) : XR false 0 0 0 A (up2 A 35 q v) := fun K d => ⟨dsk_cg d (fun x hx => up2_j (by omega)) (up2_rown (by decide)) (up2_rown (by decide)), fun o x _ _ _ => up2_rown x, fun x hx => up2_j (by omega), ⟨by rw [up2_j (by omega)]; exact Nat.le_refl _, by rw [up2_j (by omega)]; exact Nat.le_refl _⟩, by rw [up2_j (by omega)]; exact Nat.le_refl _, by rw [up2_j (by omega)]; exact Nat.le_refl _⟩
theorem XR_fl1 : XR false 0 0 0 A (fl1 A) := fun K d => by
  obtain ⟨x1, x2, -⟩ := fl1_f (A := A)
  have f : ∀ q, q ≠ 32 → q ≠ 29 → fl1 A 35 q = A 35 q := fun q h1 h2 => by rw [x2, if_neg h1, if_neg h2]
  exact ⟨dsk_cg d (fun q hq => f q (by omega) (by omega)) (x1 42 (by decide) (by decide)) (x1 43 (by decide) (by decide)), fun o h1 h2 _ _ => x1 o h1 h2, fun q hq => f q (by omega) (by omega), ⟨by rw [f 34 (by decide) (by decide)]; exact Nat.le_refl _, by rw [f 34 (by decide) (by decide)]; exact Nat.le_refl _⟩, by rw [f 28 (by decide) (by decide)]; exact Nat.le_refl _, by rw [f 28 (by decide) (by decide)]; exact Nat.le_refl _⟩
theorem XR_fg : XR false 0 0 0 A (fgA A J) := by
  unfold fgA
  split
  · unfold fgA2
    exact XR_t (XR_q (by decide) (by decide) (by decide) (by decide) (by decide) (by decide) (by omega)) (XR_q (by decide) (by decide) (by decide) (by decide) (by decide) (by decide) (by omega))
  · exact XR_r
theorem XR_flX : XR false 0 0 2 A (oA (flushX A J)).1 := by
  unfold flushX
  have f := XR_flu (A := A)
  cases e : fluX A with
  | inr B =>
    rw [e] at f
    exact XR_le f (Nat.le_refl _) (Nat.le_refl _) (by omega)
  | inl B =>
    rw [e] at f
    show XR false 0 0 2 A (oA (fl2_ (fgA (fl1 B) J) (fgJ (fl1 B) J))).1
    have f2 : XR false 0 0 1 A (fgA (fl1 B) J) := XR_t (XR_t f XR_fl1) XR_fg
    generalize fgA (fl1 B) J = Y at f2
    generalize fgJ (fl1 B) J = J2
    unfold fl2_
    split
    · exact XR_le f2 (Nat.le_refl _) (Nat.le_refl _) (by omega)
    · have g : XR false 0 0 (1 + 0 + 1) A (oX (verX (up2 Y 35 31 (Y 35 30)) 0 1 (Y 35 30))) := XR_t (XR_t f2 (XR_q (by decide) (by decide) (by decide) (by decide) (by decide) (by decide) (by omega))) (XR_ver (fun _ => by omega) (fun q => by omega))
      cases e2 : verX (up2 Y 35 31 (Y 35 30)) 0 1 (Y 35 30) with
      | inl Z =>
        rw [e2] at g
        exact g
      | inr Z =>
        rw [e2] at g
        exact g
theorem XR_ap1 {k i0 : Nat} : ∀ j i (A : tS), (∀ q, i ≤ q → q < i + j → dsk A 0 → J.1 44 (J.1 41 k + q) < 34 + A 35 6 + A 35 7) → XR false 0 0 j A (oX (ap1 J k i0 j i A))
  | 0, _, _, _ => XR_r
  | j + 1, i, A, h => by
    show XR false 0 0 (j + 1) A (oX (if grv J (J.1 44 (J.1 41 k + i)) (k + 1) i0 then ap1 J k i0 j (i + 1) A else bX (verX A (J.1 44 (J.1 41 k + i)) 0 0) (ap1 J k i0 j (i + 1))))
    split
    · exact XR_le (XR_ap1 j (i + 1) A (fun q h1 h2 => h q (by omega) (by omega))) (Nat.le_refl _) (Nat.le_refl _) (by omega)
    · have f := XR_ver (A := A) (b := J.1 44 (J.1 41 k + i)) (wh := 0) (id := 0) (h i (Nat.le_refl _) (by omega)) (fun q => by omega)
      cases e : verX A (J.1 44 (J.1 41 k + i)) 0 0 with
      | inr B =>
        rw [e] at f
        exact XR_le f (Nat.le_refl _) (Nat.le_refl _) (by omega)
      | inl B =>
        rw [e] at f
        have f : XR false 0 0 1 A B := f
        show XR false 0 0 (j + 1) A (oX (ap1 J k i0 j (i + 1) B))
        intro K d
        have fK := f (K + j) (by rw [show K + j + 1 = K + (j + 1) by omega]; exact d)
        have g := XR_ap1 (k := k) (i0 := i0) j (i + 1) B (fun q h1 h2 _ => by
          rw [fK.2.2.1 6 (by omega), fK.2.2.1 7 (by omega)]
          exact h q (by omega) (by omega) (dsk_le d (by omega)))
        have := XR_t f g
        exact this K (by rw [show K + (1 + j) = K + (j + 1) by omega]; exact d)
theorem XR_lg {sz : Nat} : ∀ m j (A : tS), 1 ≤ A 35 6 → XR false 0 0 m A (oX (lgX sz j m A))
  | 0, _, _, _ => XR_r
  | m + 1, j, A, h6 => by
    show XR false 0 0 (m + 1) A (oX (bX (verX A (34 + (A 35 33 + j) % A 35 6) 2 (A 35 34)) (lgX sz (j + 1) m)))
    have f := XR_ver (A := A) (b := 34 + (A 35 33 + j) % A 35 6) (wh := 2) (id := A 35 34) (fun _ => by
      have := Nat.mod_lt (A 35 33 + j) (show A 35 6 > 0 by omega)
      omega) (fun q => by omega)
    cases e : verX A (34 + (A 35 33 + j) % A 35 6) 2 (A 35 34) with
    | inr B =>
      rw [e] at f
      exact XR_le f (Nat.le_refl _) (Nat.le_refl _) (by omega)
    | inl B =>
      rw [e] at f
      have f : XR false 0 0 1 A B := f
      show XR false 0 0 (m + 1) A (oX (lgX sz (j + 1) m B))
      intro K d
      have fK := f (K + m) (by rw [show K + m + 1 = K + (m + 1) by omega]; exact d)
      have g := XR_lg (sz := sz) m (j + 1) B (by rw [fK.2.2.1 6 (by omega)]; exact h6)
      exact XR_t f g K (by rw [show K + (1 + m) = K + (m + 1) by omega]; exact d)
theorem cmF_o {sz : Nat} : XR true 0 1 0 A (cmF A sz) := fun K d => by
  have r : ∀ m k (Y : tS), (∀ o, o ≠ 49 → rtc (A 35 28 + 1) k m Y o = Y o) := by
    intro m
    induction m with
    | zero =>
      intro k Y o _
      rfl
    | succ m ih =>
      intro k Y o ho
      show rtc (A 35 28 + 1) (k + 1) m (if Y 49 k = 1 then up2 Y 49 k (1 + (A 35 28 + 1)) else Y) o = Y o
      rw [ih _ _ o ho]
      split
      · exact up2_rown ho
      · rfl
  have e : ∀ o, o ≠ 35 → ¬ (49 ≤ o ∧ o ≤ 52) → cmF A sz o = A o := fun o h1 h2 => by
    unfold cmF cmE egA
    rw [r _ _ _ o (by omega), fl_row (by omega), fl_row (by omega), fl_row (by omega), up2_rown h1, up2_rown h1]
  have f : ∀ q, q ≠ 33 → cmF A sz 35 q = if q = 28 then A 35 28 + 1 else A 35 q := fun q h1 => by
    unfold cmF cmE egA
    rw [r _ _ _ 35 (by decide), fl_row (by decide), fl_row (by decide), fl_row (by decide)]
    by_cases c : q = 28
    · rw [c, up2_s, if_pos rfl]
    · rw [up2_j c, up2_j h1, if_neg c]
  exact ⟨dsk_cg d (fun q hq => by rw [f q (by omega), if_neg (by omega)]) (e 42 (by decide) (by omega)) (e 43 (by decide) (by omega)), fun o h1 h2 h3 _ => e o h1 (fun k => h3 ⟨rfl, by omega, k.2⟩), fun q hq => by rw [f q (by omega), if_neg (by omega)], ⟨by rw [f 34 (by decide), if_neg (by decide)]; exact Nat.le_refl _, by rw [f 34 (by decide), if_neg (by decide)]; exact Nat.le_refl _⟩, by rw [f 28 (by decide), if_pos rfl]; omega, by rw [f 28 (by decide), if_pos rfl]; omega⟩
theorem XR_34 : XR false 1 0 0 A (up2 A 35 34 (A 35 34 + 1)) := fun K d => ⟨dsk_cg d (fun x hx => up2_j (by omega)) (up2_rown (by decide)) (up2_rown (by decide)), fun o x _ _ _ => up2_rown x, fun x hx => up2_j (by omega), ⟨by rw [up2_s]; omega, by rw [up2_s]; omega⟩, by rw [up2_j (by decide)]; exact Nat.le_refl _, by rw [up2_j (by decide)]; exact Nat.le_refl _⟩
theorem XR_tt (h : XR z a c m A B) : XR true a c m A B := fun K d => by
  obtain ⟨x1, x2, x3, x4, x5⟩ := h K d
  exact ⟨x1, fun o p q r v => x2 o p q (fun k => r ⟨rfl, k.2⟩) v, x3, x4, x5⟩
theorem XR_lgs {sz : Nat} (h6 : 1 ≤ A 35 6) : XR false (1 + 0) (0 + 0) (0 + sz) A (oX (lgX sz 0 sz (up2 A 35 34 (A 35 34 + 1)))) := by
  have e6 : up2 A 35 34 (A 35 34 + 1) 35 6 = A 35 6 := up2_j (by decide)
  exact XR_t XR_34 (XR_lg (sz := sz) sz 0 (up2 A 35 34 (A 35 34 + 1)) (by rw [e6]; exact h6))
theorem XR_cm1 {sz : Nat} (h6 : 1 ≤ A 35 6) : XR true 1 1 sz A (oA (cm1X A J sz un)).1 := by
  have g2 := XR_lgs (sz := sz) h6
  unfold cm1X
  cases e : lgX sz 0 sz (up2 A 35 34 (A 35 34 + 1)) with
  | inr B =>
    rw [e] at g2
    have g2 : XR false (1 + 0) (0 + 0) (0 + sz) A B := g2
    show XR true 1 1 sz A B
    exact XR_tt (XR_le g2 (by omega) (by omega) (by omega))
  | inl B =>
    rw [e] at g2
    have g2 : XR false (1 + 0) (0 + 0) (0 + sz) A B := g2
    have := XR_t g2 (cmF_o (A := B) (sz := sz))
    show XR true 1 1 sz A (cmF B sz)
    exact XR_le this (by omega) (by omega) (by omega)
/-- where power fails, nothing of the marks is other -/
theorem XR_cm1r {sz : Nat} {s : tP} (h6 : 1 ≤ A 35 6) (h : cm1X A J sz un = .inr s) : XR false 1 1 sz A s.1 := by
  have g2 := XR_lgs (sz := sz) h6
  unfold cm1X at h
  cases e : lgX sz 0 sz (up2 A 35 34 (A 35 34 + 1)) with
  | inr B =>
    rw [e] at g2 h
    have g2 : XR false (1 + 0) (0 + 0) (0 + sz) A B := g2
    have h : (Sum.inr (B, recJ (up2 A 35 34 (A 35 34 + 1)) J sz un) : tP ⊕ tP) = .inr s := h
    have hs : (B, recJ (up2 A 35 34 (A 35 34 + 1)) J sz un) = s := by injection h
    rw [← hs]
    exact XR_le g2 (by omega) (by omega) (by omega)
  | inl B =>
    rw [e] at h
    cases h
end XRS
