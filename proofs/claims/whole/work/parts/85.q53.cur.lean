/-! ===== PURE: what the reference's disk holds: every version, the last one ===== -/
def slA (A : tS) (j : Nat) : Nat := (A 35 15 + j) % 256
/-- all that is kept, all versions -/
def AV (P : Nat → Nat → Nat → Prop) (A : tS) : Prop := (∀ b, b < 6200 → P b (A 39 b) (A 40 b)) ∧ ∀ j, j < A 35 16 → P (A 42 (slA A j)) (A 43 (slA A j)) (A 44 (slA A j))
/-- no version waits -/
def NV (A : tS) (b : Nat) : Prop := ∀ j, j < A 35 16 → A 42 (slA A j) ≠ b
/-- what a block has last -/
def cu (A : tS) (b : Nat) : Nat → Nat × Nat
  | 0 => (A 39 b, A 40 b)
  | m + 1 => if A 42 (slA A m) = b then (A 43 (slA A m), A 44 (slA A m)) else cu A b m
def cur (A : tS) (b : Nat) : Nat × Nat := cu A b (A 35 16)
/-- the disk's cells are the same -/
def sD (A B : tS) : Prop := B 39 = A 39 ∧ B 40 = A 40 ∧ B 42 = A 42 ∧ B 43 = A 43 ∧ B 44 = A 44 ∧ B 35 15 = A 35 15 ∧ B 35 16 = A 35 16
section CUR
variable {A B : tS} {P Q : Nat → Nat → Nat → Prop} {b wh id K : Nat}
theorem sD_r : sD A A := ⟨rfl, rfl, rfl, rfl, rfl, rfl, rfl⟩
theorem sD_t {X : tS} (h : sD A B) (k : sD B X) : sD A X := by
  obtain ⟨a1, a2, a3, a4, a5, a6, a7⟩ := h
  obtain ⟨b1, b2, b3, b4, b5, b6, b7⟩ := k
  exact ⟨b1.trans a1, b2.trans a2, b3.trans a3, b4.trans a4, b5.trans a5, b6.trans a6, b7.trans a7⟩
theorem sl_sD (h : sD A B) (j : Nat) : slA B j = slA A j := by unfold slA; rw [h.2.2.2.2.2.1]
theorem AV_sD (h : sD A B) (k : AV P A) : AV P B := by
  have s := sl_sD h
  obtain ⟨a1, a2, a3, a4, a5, a6, a7⟩ := h
  unfold AV
  rw [a1, a2, a3, a4, a5, a7]
  exact ⟨k.1, fun j hj => by rw [s]; exact k.2 j hj⟩
theorem NV_sD (h : sD A B) (k : NV A b) : NV B b := by
  have s := sl_sD h
  obtain ⟨a1, a2, a3, a4, a5, a6, a7⟩ := h
  unfold NV
  rw [a3, a7]
  exact fun j hj => by rw [s]; exact k j hj
theorem cu_sD (h : sD A B) : ∀ m, cu B b m = cu A b m
  | 0 => by
    show (B 39 b, B 40 b) = (A 39 b, A 40 b)
    rw [h.1, h.2.1]
  | m + 1 => by
    have s := sl_sD h
    show (if B 42 (slA B m) = b then (B 43 (slA B m), B 44 (slA B m)) else cu B b m) = (if A 42 (slA A m) = b then (A 43 (slA A m), A 44 (slA A m)) else cu A b m)
    rw [cu_sD h m, s, h.2.2.1, h.2.2.2.1, h.2.2.2.2.1]
theorem cur_sD (h : sD A B) : cur B b = cur A b := by
  unfold cur
  rw [cu_sD h, h.2.2.2.2.2.2]
theorem AV_mono (h : AV P A) (k : ∀ b w i, P b w i → Q b w i) : AV Q A := ⟨fun b hb => k _ _ _ (h.1 b hb), fun j hj => k _ _ _ (h.2 j hj)⟩
/-- the last is one of them -/
theorem cur_AV (h : AV P A) (hb : b < 6200) : P b (cur A b).1 (cur A b).2 := by
  have : ∀ m, m ≤ A 35 16 → P b (cu A b m).1 (cu A b m).2 := fun m => by
    induction m with
    | zero => exact fun _ => h.1 b hb
    | succ m ih =>
      intro hm
      show P b (if A 42 (slA A m) = b then (A 43 (slA A m), A 44 (slA A m)) else cu A b m).1 (if A 42 (slA A m) = b then (A 43 (slA A m), A 44 (slA A m)) else cu A b m).2
      by_cases c : A 42 (slA A m) = b
      · rw [if_pos c]
        have := h.2 m (by omega)
        rwa [c] at this
      · rw [if_neg c]
        exact ih (by omega)
  exact this _ (Nat.le_refl _)
/-- no version waits: the last is the kept one -/
theorem cur_NV (h : NV A b) : cur A b = (A 39 b, A 40 b) := by
  have : ∀ m, m ≤ A 35 16 → cu A b m = (A 39 b, A 40 b) := fun m => by
    induction m with
    | zero => exact fun _ => rfl
    | succ m ih =>
      intro hm
      show (if A 42 (slA A m) = b then (A 43 (slA A m), A 44 (slA A m)) else cu A b m) = _
      rw [if_neg (h m (by omega))]
      exact ih (by omega)
  exact this _ (Nat.le_refl _)
theorem ko_sl (h : A 35 15 < 256) (j : Nat) : slA (koA A) j = slA A (j + 1) := by
  unfold slA
  rw [koA_15]
  omega
theorem ko_39 : koA A 39 b = (if b = A 42 (A 35 15) then A 43 (A 35 15) else A 39 b) ∧ koA A 40 b = (if b = A 42 (A 35 15) then A 44 (A 35 15) else A 40 b) := by
  unfold koA
  rw [up2_o (by decide), up2_o (by decide), up2_o (by decide), up2_o (by decide)]
  exact ⟨kp_39, kp_40⟩
theorem sl_0 (h : A 35 15 < 256) : slA A 0 = A 35 15 := by
  unfold slA
  omega
theorem AV_ko (h : AV P A) (h5 : A 35 15 < 256) (h0 : 0 < A 35 16) : AV P (koA A) := by
  refine ⟨fun b hb => ?_, fun j hj => ?_⟩
  · rw [ko_39.1, ko_39.2]
    by_cases c : b = A 42 (A 35 15)
    · rw [if_pos c, if_pos c]
      have := h.2 0 h0
      rw [sl_0 h5] at this
      rwa [← c] at this
    · rw [if_neg c, if_neg c]
      exact h.1 b hb
  · rw [koA_16] at hj
    rw [ko_sl h5, koA_o A _ (by decide) (by decide) (by decide) (by decide), koA_o A _ (by decide) (by decide) (by decide) (by decide), koA_o A _ (by decide) (by decide) (by decide) (by decide)]
    exact h.2 (j + 1) (by omega)
theorem NV_ko (h : NV A b) (h5 : A 35 15 < 256) : NV (koA A) b := fun j hj => by
  rw [koA_16] at hj
  rw [ko_sl h5, koA_o A _ (by decide) (by decide) (by decide) (by decide)]
  exact h (j + 1) (by omega)
theorem cu_ko (h5 : A 35 15 < 256) : ∀ m, cu (koA A) b m = cu A b (m + 1)
  | 0 => by
    show (koA A 39 b, koA A 40 b) = (if A 42 (slA A 0) = b then (A 43 (slA A 0), A 44 (slA A 0)) else (A 39 b, A 40 b))
    rw [ko_39.1, ko_39.2, sl_0 h5]
    by_cases c : A 42 (A 35 15) = b
    · rw [if_pos c, if_pos c.symm, if_pos c.symm]
    · rw [if_neg c, if_neg (fun e => c e.symm), if_neg (fun e => c e.symm)]
  | m + 1 => by
    show (if koA A 42 (slA (koA A) m) = b then (koA A 43 (slA (koA A) m), koA A 44 (slA (koA A) m)) else cu (koA A) b m) = (if A 42 (slA A (m + 1)) = b then (A 43 (slA A (m + 1)), A 44 (slA A (m + 1))) else cu A b (m + 1))
    rw [cu_ko h5 m, ko_sl h5, koA_o A _ (by decide) (by decide) (by decide) (by decide), koA_o A _ (by decide) (by decide) (by decide) (by decide), koA_o A _ (by decide) (by decide) (by decide) (by decide)]
theorem cur_ko (h5 : A 35 15 < 256) (h0 : 0 < A 35 16) : cur (koA A) b = cur A b := by
  unfold cur
  rw [koA_16, cu_ko h5, show A 35 16 - 1 + 1 = A 35 16 by omega]
theorem act_sD : sD A (actA A) := by
  refine ⟨?_, ?_, ?_, ?_, ?_, actA_35 A _ (by decide) (by decide), actA_35 A _ (by decide) (by decide)⟩ <;> (funext q; exact actA_o A q (by decide))
theorem pow_sD : sD A (powA A) := by
  have e : ∀ o, o ≠ 35 → o ≠ 46 → powA A o = A o := fun o h1 h2 => by
    unfold powA
    rw [fl_row h2, up2_rown h1, up2_rown h1]
  have f : ∀ q, q ≠ 18 → q ≠ 19 → powA A 35 q = A 35 q := fun q h1 h2 => by
    unfold powA
    rw [fl_row (by decide), up2_j h2, up2_j h1]
  exact ⟨e _ (by decide) (by decide), e _ (by decide) (by decide), e _ (by decide) (by decide), e _ (by decide) (by decide), e _ (by decide) (by decide), f _ (by decide) (by decide), f _ (by decide) (by decide)⟩
/-- behind a flush: all is kept -/
theorem koN_all : ∀ m (A : tS), A 35 15 < 256 → A 35 16 = m → (∀ b, (koN m A 39 b, koN m A 40 b) = cur A b) ∧ koN m A 35 16 = 0 ∧ koN m A 35 15 < 256 ∧ (∀ q, q ≠ 15 → q ≠ 16 → koN m A 35 q = A 35 q) ∧ (∀ o, o ≠ 35 → o ≠ 39 → o ≠ 40 → o ≠ 41 → koN m A o = A o) ∧ ∀ b, NV A b → koN m A 39 b = A 39 b ∧ koN m A 40 b = A 40 b
  | 0, A, h5, h0 => ⟨fun b => by unfold cur; rw [h0]; rfl, h0, h5, fun _ _ _ => rfl, fun _ _ _ _ _ => rfl, fun _ _ => ⟨rfl, rfl⟩⟩
  | m + 1, A, h5, h0 => by
    obtain ⟨i1, i2, i3, i4, i5, i6⟩ := koN_all m (koA A) (by rw [koA_15]; omega) (by rw [koA_16]; omega)
    refine ⟨fun b => ?_, i2, i3, fun q a b => ?_, fun o a b c d => ?_, fun b hb => ?_⟩
    · show (koN m (koA A) 39 b, koN m (koA A) 40 b) = cur A b
      rw [i1, cur_ko h5 (by omega)]
    · show koN m (koA A) 35 q = A 35 q
      rw [i4 q a b, koA_35 A q a b]
    · show koN m (koA A) o = A o
      rw [i5 o a b c d]
      funext q
      exact koA_o A q a b c d
    · show koN m (koA A) 39 b = A 39 b ∧ koN m (koA A) 40 b = A 40 b
      obtain ⟨j1, j2⟩ := i6 b (NV_ko hb h5)
      have ne : ¬ b = A 42 (A 35 15) := fun e => by
        have := hb 0 (by omega)
        rw [sl_0 h5] at this
        exact this e.symm
      rw [j1, j2, ko_39.1, ko_39.2, if_neg ne, if_neg ne]
      exact ⟨rfl, rfl⟩
theorem flu_all (h5 : A 35 15 < 256) : (∀ b, (fluA A 39 b, fluA A 40 b) = cur A b) ∧ fluA A 35 16 = 0 ∧ fluA A 35 15 < 256 ∧ (∀ q, q ≠ 15 → q ≠ 16 → q ≠ 19 → q ≠ 20 → q ≠ 21 → fluA A 35 q = A 35 q) ∧ (∀ o, o ≠ 35 → o ≠ 39 → o ≠ 40 → o ≠ 41 → fluA A o = A o) := by
  have s := act_sD (A := A)
  obtain ⟨i1, i2, i3, i4, i5, i6⟩ := koN_all (actA A 35 16) (actA A) (by rw [s.2.2.2.2.2.1]; exact h5) rfl
  unfold fluA
  refine ⟨fun b => ?_, ?_, ?_, fun q a b c d e => ?_, fun o a b c d => ?_⟩
  · rw [up2_o (by decide), up2_o (by decide), i1, cur_sD s]
  · rw [up2_j (by decide)]
    exact i2
  · rw [up2_j (by decide)]
    exact i3
  · rw [up2_j e, i4 q a b, actA_35 A q c d]
  · rw [up2_rown a, i5 o a b c d]
    funext q
    exact actA_o A q a
theorem AV_flu (h : AV P A) (h5 : A 35 15 < 256) : AV P (fluA A) := by
  obtain ⟨i1, i2, i3, i4, i5⟩ := flu_all h5
  refine ⟨fun b hb => ?_, fun j hj => by rw [i2] at hj; omega⟩
  have e := i1 b
  have e1 : fluA A 39 b = (cur A b).1 := by rw [← e]
  have e2 : fluA A 40 b = (cur A b).2 := by rw [← e]
  rw [e1, e2]
  exact cur_AV h hb
theorem NV_flu (h5 : A 35 15 < 256) : NV (fluA A) b := fun j hj => by
  rw [(flu_all h5).2.1] at hj
  omega
theorem cur_flu (h5 : A 35 15 < 256) : cur (fluA A) b = cur A b := by
  rw [cur_NV (NV_flu h5), (flu_all h5).1]
/-- a version more -/
theorem ve1_f {s : Nat} (hs : s = slA A (A 35 16)) (h6 : A 35 16 < 256) : (∀ j, slA (ve1 A s b wh id) j = slA A j) ∧ ve1 A s b wh id 35 16 = A 35 16 + 1 ∧ (∀ j, j < A 35 16 → ve1 A s b wh id 42 (slA A j) = A 42 (slA A j) ∧ ve1 A s b wh id 43 (slA A j) = A 43 (slA A j) ∧ ve1 A s b wh id 44 (slA A j) = A 44 (slA A j)) ∧ (ve1 A s b wh id 42 s = b ∧ ve1 A s b wh id 43 s = wh ∧ ve1 A s b wh id 44 s = id) ∧ ve1 A s b wh id 39 = A 39 ∧ ve1 A s b wh id 40 = A 40 := by
  have key : ∀ o q, o ≠ 45 → ve1 A s b wh id o q = up2 (up2 (up2 (up2 A 42 s b) 43 s wh) 44 s id) 35 16 (A 35 16 + 1) o q := fun o q ho => by
    unfold ve1
    split
    · unfold up2 upR
      by_cases c : o = 35
      · rw [if_pos c, if_pos c]
        simp only [if_neg ho]
      · rw [if_neg c, if_neg c]
        simp only [if_neg ho]
    · rfl
  have ne : ∀ j, j < A 35 16 → slA A j ≠ s := fun j hj => by
    rw [hs]
    unfold slA
    omega
  have e15 : ve1 A s b wh id 35 15 = A 35 15 := by
    rw [key _ _ (by decide), up2_j (by decide), up2_o (by decide), up2_o (by decide), up2_o (by decide)]
  refine ⟨fun j => by unfold slA; rw [e15], ?_, fun j hj => ⟨?_, ?_, ?_⟩, ⟨?_, ?_, ?_⟩, ?_, ?_⟩
  · rw [key _ _ (by decide), up2_s]
  · rw [key _ _ (by decide), up2_o (by decide), up2_o (by decide), up2_o (by decide), up2_j (ne j hj)]
  · rw [key _ _ (by decide), up2_o (by decide), up2_o (by decide), up2_j (ne j hj), up2_o (by decide)]
  · rw [key _ _ (by decide), up2_o (by decide), up2_j (ne j hj), up2_o (by decide), up2_o (by decide)]
  · rw [key _ _ (by decide), up2_o (by decide), up2_o (by decide), up2_o (by decide), up2_s]
  · rw [key _ _ (by decide), up2_o (by decide), up2_o (by decide), up2_s]
  · rw [key _ _ (by decide), up2_o (by decide), up2_s]
  · funext q
    rw [key _ _ (by decide), up2_o (by decide), up2_o (by decide), up2_o (by decide), up2_o (by decide)]
  · funext q
    rw [key _ _ (by decide), up2_o (by decide), up2_o (by decide), up2_o (by decide), up2_o (by decide)]
theorem AV_ve1 (h : AV P A) (h6 : A 35 16 < 256) (hp : P b wh id) : AV P (ve1 A (slA A (A 35 16)) b wh id) := by
  obtain ⟨i1, i2, i3, i4, i5, i6⟩ := ve1_f (A := A) (b := b) (wh := wh) (id := id) rfl h6
  refine ⟨fun b' hb' => by rw [i5, i6]; exact h.1 b' hb', fun j hj => ?_⟩
  rw [i2] at hj
  rw [i1]
  by_cases c : j = A 35 16
  · rw [c, i4.1, i4.2.1, i4.2.2]
    exact hp
  · obtain ⟨k1, k2, k3⟩ := i3 j (by omega)
    rw [k1, k2, k3]
    exact h.2 j (by omega)
theorem NV_ve1 {b' : Nat} (h : NV A b') (h6 : A 35 16 < 256) (ne : b ≠ b') : NV (ve1 A (slA A (A 35 16)) b wh id) b' := fun j hj => by
  obtain ⟨i1, i2, i3, i4, i5, i6⟩ := ve1_f (A := A) (b := b) (wh := wh) (id := id) rfl h6
  rw [i2] at hj
  rw [i1]
  by_cases c : j = A 35 16
  · rw [c, i4.1]
    exact ne
  · rw [(i3 j (by omega)).1]
    exact h j (by omega)
theorem cur_ve1 {b' : Nat} (h6 : A 35 16 < 256) : cur (ve1 A (slA A (A 35 16)) b wh id) b' = if b = b' then (wh, id) else cur A b' := by
  obtain ⟨i1, i2, i3, i4, i5, i6⟩ := ve1_f (A := A) (b := b) (wh := wh) (id := id) rfl h6
  have e : ∀ m, m ≤ A 35 16 → cu (ve1 A (slA A (A 35 16)) b wh id) b' m = cu A b' m := fun m => by
    induction m with
    | zero =>
      intro _
      show (ve1 A (slA A (A 35 16)) b wh id 39 b', ve1 A (slA A (A 35 16)) b wh id 40 b') = (A 39 b', A 40 b')
      rw [i5, i6]
    | succ m ih =>
      intro hm
      obtain ⟨k1, k2, k3⟩ := i3 m (by omega)
      show (if ve1 A (slA A (A 35 16)) b wh id 42 (slA (ve1 A (slA A (A 35 16)) b wh id) m) = b' then _ else cu (ve1 A (slA A (A 35 16)) b wh id) b' m) = (if A 42 (slA A m) = b' then (A 43 (slA A m), A 44 (slA A m)) else cu A b' m)
      rw [i1, k1, k2, k3, ih (by omega)]
  unfold cur
  rw [i2]
  show (if ve1 A (slA A (A 35 16)) b wh id 42 (slA (ve1 A (slA A (A 35 16)) b wh id) (A 35 16)) = b' then (ve1 A (slA A (A 35 16)) b wh id 43 (slA (ve1 A (slA A (A 35 16)) b wh id) (A 35 16)), ve1 A (slA A (A 35 16)) b wh id 44 (slA (ve1 A (slA A (A 35 16)) b wh id) (A 35 16))) else cu (ve1 A (slA A (A 35 16)) b wh id) b' (A 35 16)) = _
  rw [i1, i4.1, i4.2.1, i4.2.2, e _ (Nat.le_refl _)]
theorem ver_e (h : dsk A K) : verA A b wh id = ve1 (ve2 (actA A)) (slA (ve2 (actA A)) (ve2 (actA A) 35 16)) b wh id ∧ ve2 (actA A) 35 16 < 256 ∧ ve2 (actA A) 35 15 < 256 := by
  have s := act_sD (A := A)
  have h5 := h.2.2.1
  have h6 := h.2.2.2.1
  refine ⟨rfl, ?_, ?_⟩
  · unfold ve2
    by_cases c : actA A 35 16 = 256
    · rw [if_pos c, koA_16]
      omega
    · rw [if_neg c]
      rw [s.2.2.2.2.2.2] at c ⊢
      omega
  · unfold ve2
    split
    · rw [koA_15]
      omega
    · rw [s.2.2.2.2.2.1]
      exact h5
theorem ve2_p (h : dsk A K) : (∀ P, AV P A → AV P (ve2 (actA A))) ∧ (∀ b, NV A b → NV (ve2 (actA A)) b) ∧ (∀ b, cur (ve2 (actA A)) b = cur A b) := by
  have s := act_sD (A := A)
  have h5 : actA A 35 15 < 256 := by rw [s.2.2.2.2.2.1]; exact h.2.2.1
  unfold ve2
  by_cases c : actA A 35 16 = 256
  · rw [if_pos c]
    exact ⟨fun P k => AV_ko (AV_sD s k) h5 (by omega), fun b k => NV_ko (NV_sD s k) h5, fun b => by rw [cur_ko h5 (by omega), cur_sD s]⟩
  · rw [if_neg c]
    exact ⟨fun P k => AV_sD s k, fun b k => NV_sD s k, fun b => cur_sD s⟩
theorem AV_ver (hd : dsk A K) (h : AV P A) (hp : P b wh id) : AV P (verA A b wh id) := by
  obtain ⟨e1, e2, e3⟩ := ver_e (b := b) (wh := wh) (id := id) hd
  rw [e1]
  exact AV_ve1 ((ve2_p hd).1 P h) e2 hp
theorem NV_ver {b' : Nat} (hd : dsk A K) (h : NV A b') (ne : b ≠ b') : NV (verA A b wh id) b' := by
  obtain ⟨e1, e2, e3⟩ := ver_e (b := b) (wh := wh) (id := id) hd
  rw [e1]
  exact NV_ve1 ((ve2_p hd).2.1 b' h) e2 ne
theorem cur_ver {b' : Nat} (hd : dsk A K) : cur (verA A b wh id) b' = if b = b' then (wh, id) else cur A b' := by
  obtain ⟨e1, e2, e3⟩ := ver_e (b := b) (wh := wh) (id := id) hd
  rw [e1, cur_ve1 e2, (ve2_p hd).2.2]
end CUR
