/-! ===== PURE: how much a call touches: the steps ===== -/
/-- cells that a call touches for a node's blocks, from place lo on, before hi -/
def TG (n lo hi : Nat) (B : tS) (b : Nat) : Prop := b = 1 ∨ b = 2 + n / 2 ∨ ∃ s, 2000 ≤ s ∧ vs s ∧ slo B n s ≠ 0 ∧ b = 34 + B 35 6 + (slo B n s - 1) ∧ ∃ j, lo ≤ j ∧ j < hi ∧ j < 1064 ∧ 8 ≤ j ∧ (s = pa j ∨ (40 ≤ j ∧ s = 2001))
/-- touched cells, where blocks go -/
def TL (n lo hi : Nat) (A B : tS) : Prop := ∀ b, B 51 b ≠ 0 → (A 51 b ≠ 0 ∧ ∀ s, 2000 ≤ s → vs s → slo A n s ≠ 0 → slo B n s = 0 → b ≠ 34 + A 35 6 + (slo A n s - 1)) ∨ TG n lo hi B b
/-- revoked blocks -/
def RvL (n lim : Nat) (A B : tS) : Prop := ∀ b, B 52 b ≠ 0 → A 52 b ≠ 0 ∨ ∃ s, vs s ∧ (s < lim ∨ 2000 ≤ s) ∧ slo A n s ≠ 0 ∧ b = 34 + A 35 6 + (slo A n s - 1)
/-- places are only left -/
def VL (n : Nat) (A B : tS) : Prop := (∀ s, vs s → slo B n s = slo A n s ∨ slo B n s = 0) ∧ B 35 6 = A 35 6
section GRP
variable {bi : Nat → Nat} {w : Nat → Nat × Nat} {C X A B E : tS} {t n m k d r s i lo hi lim : Nat} {me : Bool}
theorem cn_mono2 {p q : Nat → Bool} : ∀ m k, (∀ b, p b = true → q b = true) → cn p k m ≤ cn q k m
  | 0, _, _ => Nat.le_refl _
  | m + 1, k, h => by
    have ih := cn_mono2 m (k + 1) h
    show (if p k = true then 1 else 0) + cn p (k + 1) m ≤ (if q k = true then 1 else 0) + cn q (k + 1) m
    by_cases c : p k = true
    · rw [if_pos c, if_pos (h k c)]
      omega
    · rw [if_neg c]
      omega
theorem cn_one {q : Nat → Bool} {a : Nat} : ∀ m k, cn (fun b => q b || b == a) k m ≤ cn q k m + 1 ∧ (a < k → cn (fun b => q b || b == a) k m ≤ cn q k m)
  | 0, _ => ⟨Nat.zero_le _, fun _ => Nat.le_refl _⟩
  | m + 1, k => by
    obtain ⟨i1, i2⟩ := cn_one (q := q) (a := a) m (k + 1)
    show (if (q k || k == a) = true then 1 else 0) + cn (fun b => q b || b == a) (k + 1) m ≤ (if q k = true then 1 else 0) + cn q (k + 1) m + 1 ∧ (a < k → (if (q k || k == a) = true then 1 else 0) + cn (fun b => q b || b == a) (k + 1) m ≤ (if q k = true then 1 else 0) + cn q (k + 1) m)
    by_cases c : k = a
    · have i2 := i2 (by omega)
      refine ⟨?_, fun y => by omega⟩
      have : (if (q k || k == a) = true then 1 else 0) ≤ 1 := by split <;> omega
      omega
    · have e : (q k || k == a) = q k := by
        have : (k == a) = false := by simpa using c
        rw [this, Bool.or_false]
      rw [e]
      exact ⟨by omega, fun y => by have := i2 (by omega); omega⟩
theorem cn_list {p : Nat → Bool} : ∀ (L : List Nat) (q : Nat → Bool) (m k : Nat), (∀ b, p b = true → q b = true ∨ b ∈ L) → cn p k m ≤ cn q k m + L.length
  | [], q, m, k, h => cn_mono2 m k (fun b y => by
    rcases h b y with z | z
    · exact z
    · cases z)
  | a :: L, q, m, k, h => by
    have ih := cn_list (p := p) L (fun b => q b || b == a) m k (fun b y => by
      rcases h b y with z | z
      · exact Or.inl (by rw [z, Bool.true_or])
      · cases z with
        | head => exact Or.inl (by simp)
        | tail _ z => exact Or.inr z)
    have := (cn_one (q := q) (a := a) m k).1
    rw [List.length_cons]
    omega
/-- how much bigger the group is -/
theorem gs_list (L R : List Nat) (h1 : ∀ b, B 51 b ≠ 0 → A 51 b ≠ 0 ∨ b ∈ L) (h2 : ∀ b, B 52 b ≠ 0 → A 52 b ≠ 0 ∨ b ∈ R) : tcA B ≤ tcA A + L.length ∧ rcA B ≤ rcA A + R.length := by
  refine ⟨cn_list L _ _ _ (fun b y => ?_), cn_list R _ _ _ (fun b y => ?_)⟩
  · rcases h1 b (by simpa using y) with z | z
    · exact Or.inl (by simpa using z)
    · exact Or.inr z
  · rcases h2 b (by simpa using y) with z | z
    · exact Or.inl (by simpa using z)
    · exact Or.inr z
theorem gs_div (x y p q a e : Nat) (h : x ≤ p + a) (g : y ≤ q + e) (he : a + e ≤ 240) : x + (x + y + 119) / 120 ≤ p + (p + q + 119) / 120 + (a + 2) := by omega
theorem gs_le {a e : Nat} (h : tcA B ≤ tcA A + a) (g : rcA B ≤ rcA A + e) (he : a + e ≤ 240) : gsA B ≤ gsA A + (a + 2) := gs_div _ _ _ _ _ _ h g he
theorem TL_r : TL n lo hi A A := fun b h => Or.inl ⟨h, fun s _ _ y z => absurd z y⟩
theorem VL_r : VL n A A := ⟨fun _ _ => Or.inl rfl, rfl⟩
theorem VL_t (h : VL n A B) (g : VL n B E) : VL n A E := ⟨fun s hs => by
  rcases g.1 s hs with y | y
  · rw [y]
    exact h.1 s hs
  · exact Or.inr y, g.2.trans h.2⟩
theorem TL_t (h1 : TL n lo hi A B) (h2 : TL n lo hi B E) (v1 : VL n A B) (v2 : VL n B E) : TL n lo hi A E := by
  intro b hb
  rcases h2 b hb with ⟨y1, y2⟩ | y
  · rcases h1 b y1 with ⟨z1, z2⟩ | z
    · refine Or.inl ⟨z1, fun s a c d e => ?_⟩
      by_cases q : slo B n s = 0
      · exact z2 s a c d q
      · have eB : slo B n s = slo A n s := by
          rcases v1.1 s c with u | u
          · exact u
          · exact absurd u q
        have := y2 s a c q e
        rwa [eB, v1.2] at this
    · rcases z with z | z | ⟨s, a, c, d, e, f⟩
      · exact Or.inr (Or.inl z)
      · exact Or.inr (Or.inr (Or.inl z))
      · by_cases q : slo E n s = 0
        · exact absurd e (y2 s a c d q)
        · have eE : slo E n s = slo B n s := by
            rcases v2.1 s c with u | u
            · exact u
            · exact absurd u q
          exact Or.inr (Or.inr (Or.inr ⟨s, a, c, q, by rw [eE, v2.2]; exact e, f⟩))
  · exact Or.inr y
theorem RvL_r : RvL n lim A A := fun b h => Or.inl h
theorem RvL_t (h1 : RvL n lim A B) (h2 : RvL n lim B E) (v1 : VL n A B) : RvL n lim A E := by
  intro b hb
  rcases h2 b hb with y | ⟨s, a, c, d, e⟩
  · exact h1 b y
  · have eB : slo B n s = slo A n s := by
      rcases v1.1 s a with u | u
      · exact u
      · exact absurd u d
    exact Or.inr ⟨s, a, c, by rw [← eB]; exact d, by rw [← eB, ← v1.2]; exact e⟩
/-- rows 51 and 52 alike, places alike -/
theorem TL_e (h51 : B 51 = A 51) (hs : ∀ s, vs s → slo B n s = slo A n s) : TL n lo hi A B := fun b h => Or.inl ⟨by rw [← h51]; exact h, fun s _ c y z => absurd (by rw [← hs s c]; exact z) y⟩
theorem RvL_e (h52 : B 52 = A 52) : RvL n lim A B := fun b h => Or.inl (by rw [← h52]; exact h)
theorem de_51 {b : Nat} : deAt A n s me 51 b = if me = true ∧ b = 34 + A 35 6 + (slo A n s - 1) then 0 else if b = 1 then 1 else if b = nbA A (tcC A n s) then 1 else A 51 b := by
  unfold deAt freeA
  have e6 : up2 (up2 A 36 (lcA A n s) 0) 51 (nbA A (tcC A n s)) 1 35 6 = A 35 6 := by rw [up2_o (by decide), up2_o (by decide)]
  have base : ∀ b, up2 (up2 (up2 (up2 (up2 (up2 A 36 (lcA A n s) 0) 51 (nbA A (tcC A n s)) 1) 36 (6080 + (slo A n s - 1) * 274) 0) 51 1 1) 49 (slo A n s - 1) 1) 48 (slo A n s - 1) 0 51 b = if b = 1 then 1 else if b = nbA A (tcC A n s) then 1 else A 51 b := fun b => by
    rw [up2_o (by decide), up2_o (by decide), up2_if]
    by_cases c : b = 1
    · rw [if_pos c, if_pos ⟨rfl, c⟩]
    · rw [if_neg c, if_neg (fun q => c q.2), up2_o (by decide), up2_if]
      by_cases c2 : b = nbA A (tcC A n s)
      · rw [if_pos c2, if_pos ⟨rfl, c2⟩]
      · rw [if_neg c2, if_neg (fun q => c2 q.2), up2_o (by decide)]
  cases me with
  | true =>
    show up2 (up2 _ 51 _ 0) 52 _ 1 51 b = _
    rw [up2_o (by decide), up2_if, e6]
    by_cases c : b = 34 + A 35 6 + (slo A n s - 1)
    · rw [if_pos ⟨rfl, c⟩, if_pos ⟨rfl, c⟩]
    · rw [if_neg (fun q => c q.2), if_neg (fun q => c q.2), base]
  | false =>
    rw [if_neg (fun q => by cases q.1)]
    exact base b
theorem de_52 {b : Nat} : deAt A n s me 52 b = if me = true ∧ b = 34 + A 35 6 + (slo A n s - 1) then 1 else A 52 b := by
  unfold deAt freeA
  have e6 : up2 (up2 A 36 (lcA A n s) 0) 51 (nbA A (tcC A n s)) 1 35 6 = A 35 6 := by rw [up2_o (by decide), up2_o (by decide)]
  have base : ∀ b, up2 (up2 (up2 (up2 (up2 (up2 A 36 (lcA A n s) 0) 51 (nbA A (tcC A n s)) 1) 36 (6080 + (slo A n s - 1) * 274) 0) 51 1 1) 49 (slo A n s - 1) 1) 48 (slo A n s - 1) 0 52 b = A 52 b := fun b => by
    rw [up2_o (by decide), up2_o (by decide), up2_o (by decide), up2_o (by decide), up2_o (by decide), up2_o (by decide)]
  cases me with
  | true =>
    show up2 (up2 _ 51 _ 0) 52 _ 1 52 b = _
    rw [up2_if, e6]
    by_cases c : b = 34 + A 35 6 + (slo A n s - 1)
    · rw [if_pos ⟨rfl, c⟩, if_pos ⟨rfl, c⟩]
    · rw [if_neg (fun q => c q.2), if_neg (fun q => c q.2), up2_o (by decide), base]
  | false =>
    rw [if_neg (fun q => by cases q.1)]
    exact base b
/-- a block taken away -/
theorem TL_de (hn : n < 64) (hv : vs s) (h0 : slo A n s ≠ 0) (hs : ∀ s', vs s' → slo (deAt A n s me) n s' = if s' = s then 0 else slo A n s') (h6 : deAt A n s me 35 6 = A 35 6) (hme : 2000 ≤ s → me = true) (hj : rs s = false → ∃ j, lo ≤ j ∧ j < hi ∧ j < 1064 ∧ 8 ≤ j ∧ (pa s = pa j ∨ (40 ≤ j ∧ pa s = 2001))) (hlim : me = true → s < lim ∨ 2000 ≤ s) : TL n lo hi A (deAt A n s me) ∧ RvL n lim A (deAt A n s me) ∧ VL n A (deAt A n s me) := by
  refine ⟨fun b hb => ?_, fun b hb => ?_, ⟨fun s' hs' => ?_, h6⟩⟩
  · rw [de_51] at hb
    by_cases c : me = true ∧ b = 34 + A 35 6 + (slo A n s - 1)
    · rw [if_pos c] at hb
      exact absurd rfl hb
    · rw [if_neg c] at hb
      by_cases c1 : b = 1
      · exact Or.inr (Or.inl c1)
      · rw [if_neg c1] at hb
        by_cases c2 : b = nbA A (tcC A n s)
        · cases r : rs s with
          | true =>
            refine Or.inr (Or.inr (Or.inl ?_))
            have et : tcC A n s = 2 + n / 2 := by
              unfold tcC
              rw [r]
              rfl
            rw [c2, et]
            unfold nbA
            rw [if_pos (by omega)]
          | false =>
            obtain ⟨f1, f2, f3, f4, f5⟩ := slo_n (A := A) (n := n) hv r
            have lz : slo A n (pa s) ≠ 0 := fun z => by
              rw [if_pos z] at f1
              exact h0 f1
            have lz1 : slo (deAt A n s me) n (pa s) = slo A n (pa s) := by rw [hs _ f2, if_neg f5]
            refine Or.inr (Or.inr (Or.inr ⟨pa s, f3, f2, by rw [lz1]; exact lz, ?_, hj r⟩))
            have et : tcC A n s = 34 + (slo A n (pa s) - 1) := by
              unfold tcC
              rw [r]
              rfl
            rw [c2, lz1, h6, et]
            unfold nbA
            rw [if_neg (by omega)]
            omega
        · rw [if_neg c2] at hb
          refine Or.inl ⟨hb, fun s' a d e f => ?_⟩
          rw [hs s' d] at f
          by_cases y : s' = s
          · intro z
            rw [y] at z
            exact c ⟨hme (by omega), z⟩
          · rw [if_neg y] at f
            exact absurd f e
  · rw [de_52] at hb
    by_cases c : me = true ∧ b = 34 + A 35 6 + (slo A n s - 1)
    · exact Or.inr ⟨s, hv, hlim c.1, h0, c.2⟩
    · rw [if_neg c] at hb
      exact Or.inl hb
  · rw [hs s' hs']
    by_cases y : s' = s
    · rw [if_pos y]
      exact Or.inr rfl
    · rw [if_neg y]
      exact Or.inl rfl
end GRP
