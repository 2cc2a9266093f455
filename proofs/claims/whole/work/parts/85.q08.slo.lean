/-! ===== PURE: the places of a node's blocks, one by one ===== -/
/-- places in the node itself -/
def rs (s : Nat) : Bool := decide (s < 8 ∨ s = 2000 ∨ s = 2001)
def ro (s : Nat) : Nat := if s = 2000 then 93 else if s = 2001 then 94 else 85 + s
/-- the table in which a place lies, and where in it -/
def pa (s : Nat) : Nat := if 2100 ≤ s then 2001 else if s < 40 then 2000 else 2100 + (s - 40) / 32
def kx (s : Nat) : Nat := if 2100 ≤ s then s - 2100 else if s < 40 then s - 8 else (s - 40) % 32
def lcA (A : tS) (n s : Nat) : Nat := if rs s then n * 95 + ro s else 6080 + (slo A n (pa s) - 1) * 274 + (2 + kx s)
section SLO
variable {bi : Nat → Nat} {w : Nat → Nat × Nat} {C A B : tS} {W : Nat → Nat}
theorem rs_t {s : Nat} (h : rs s = true) : s < 8 ∨ s = 2000 ∨ s = 2001 := of_decide_eq_true h
theorem rs_f {s : Nat} (h : rs s = false) : ¬ (s < 8 ∨ s = 2000 ∨ s = 2001) := of_decide_eq_false h
theorem slo_r {n s : Nat} (h : rs s = true) : slo A n s = nd A n (ro s) := by
  have := rs_t h
  unfold slo ro
  by_cases c1 : s = 2000
  · rw [if_pos c1, if_pos c1]
  · by_cases c2 : s = 2001
    · rw [if_neg c1, if_neg c1, if_pos c2, if_pos c2]
    · rw [if_neg c1, if_neg c1, if_neg c2, if_neg c2, if_neg (by omega)]
      unfold hasA
      rw [if_pos (by omega)]
theorem slo_n {n s : Nat} (hv : vs s) (h : rs s = false) : slo A n s = (if slo A n (pa s) = 0 then 0 else pt A (slo A n (pa s) - 1) (kx s)) ∧ vs (pa s) ∧ 2000 ≤ pa s ∧ kx s < 32 ∧ pa s ≠ s := by
  have h := rs_f h
  unfold vs at hv
  by_cases c : 2100 ≤ s
  · have e1 : pa s = 2001 := by unfold pa; rw [if_pos c]
    have e2 : kx s = s - 2100 := by unfold kx; rw [if_pos c]
    rw [e1, e2]
    refine ⟨?_, by unfold vs; omega, by omega, by omega, by omega⟩
    show slo A n s = if nd A n 94 = 0 then 0 else pt A (nd A n 94 - 1) (s - 2100)
    unfold slo
    rw [if_neg (by omega), if_neg (by omega), if_pos c]
  · by_cases c2 : s < 40
    · have e1 : pa s = 2000 := by unfold pa; rw [if_neg c, if_pos c2]
      have e2 : kx s = s - 8 := by unfold kx; rw [if_neg c, if_pos c2]
      rw [e1, e2]
      refine ⟨?_, by unfold vs; omega, by omega, by omega, by omega⟩
      show slo A n s = if nd A n 93 = 0 then 0 else pt A (nd A n 93 - 1) (s - 8)
      unfold slo hasA leafA plA
      rw [if_neg (by omega), if_neg (by omega), if_neg c, if_neg (by omega), if_pos c2, if_pos c2]
    · have e1 : pa s = 2100 + (s - 40) / 32 := by unfold pa; rw [if_neg c, if_neg c2]
      have e2 : kx s = (s - 40) % 32 := by unfold kx; rw [if_neg c, if_neg c2]
      rw [e1, e2]
      refine ⟨?_, by unfold vs; omega, by omega, by omega, by omega⟩
      have e3 : slo A n (2100 + (s - 40) / 32) = leafA A n s := by
        unfold slo leafA
        rw [if_neg (by omega), if_neg (by omega), if_pos (by omega), if_neg c2, show 2100 + (s - 40) / 32 - 2100 = (s - 40) / 32 by omega]
      rw [e3]
      unfold slo hasA
      rw [if_neg (by omega), if_neg (by omega), if_neg c, if_neg (by omega)]
      unfold plA
      rw [if_neg c2]
theorem pa_inj {s t : Nat} (hs : vs s) (ht : vs t) (h1 : rs s = false) (h2 : rs t = false) (e1 : pa s = pa t) (e2 : kx s = kx t) : s = t := by
  have h1 := rs_f h1
  have h2 := rs_f h2
  unfold vs at hs ht
  unfold pa at e1
  unfold kx at e2
  by_cases c1 : 2100 ≤ s
  · by_cases c2 : 2100 ≤ t
    · rw [if_pos c1, if_pos c2] at e2
      omega
    · by_cases c3 : t < 40
      · rw [if_pos c1, if_neg c2, if_pos c3] at e1
        omega
      · rw [if_pos c1, if_neg c2, if_neg c3] at e1
        omega
  · by_cases c2 : 2100 ≤ t
    · by_cases c3 : s < 40
      · rw [if_neg c1, if_pos c3, if_pos c2] at e1
        omega
      · rw [if_neg c1, if_neg c3, if_pos c2] at e1
        omega
    · by_cases c3 : s < 40
      · by_cases c4 : t < 40
        · rw [if_neg c1, if_pos c3, if_neg c2, if_pos c4] at e2
          omega
        · rw [if_neg c1, if_pos c3, if_neg c2, if_neg c4] at e1
          omega
      · by_cases c4 : t < 40
        · rw [if_neg c1, if_neg c3, if_neg c2, if_pos c4] at e1
          omega
        · rw [if_neg c1, if_neg c3, if_neg c2, if_neg c4] at e1 e2
          omega
theorem ro_inj {s t : Nat} (h1 : rs s = true) (h2 : rs t = true) (e : ro s = ro t) : s = t := by
  have h1 := rs_t h1
  have h2 := rs_t h2
  unfold ro at e
  by_cases c1 : s = 2000
  · by_cases c2 : t = 2000
    · omega
    · by_cases c3 : t = 2001
      · rw [if_pos c1, if_neg c2, if_pos c3] at e
        omega
      · rw [if_pos c1, if_neg c2, if_neg c3] at e
        omega
  · by_cases c4 : s = 2001
    · by_cases c2 : t = 2000
      · rw [if_neg c1, if_pos c4, if_pos c2] at e
        omega
      · by_cases c3 : t = 2001
        · omega
        · rw [if_neg c1, if_pos c4, if_neg c2, if_neg c3] at e
          omega
    · by_cases c2 : t = 2000
      · rw [if_neg c1, if_neg c4, if_pos c2] at e
        omega
      · by_cases c3 : t = 2001
        · rw [if_neg c1, if_neg c4, if_neg c2, if_pos c3] at e
          omega
        · rw [if_neg c1, if_neg c4, if_neg c2, if_neg c3] at e
          omega
theorem ro_lt {s : Nat} (h1 : rs s = true) : 85 ≤ ro s ∧ ro s < 95 := by
  have h1 := rs_t h1
  unfold ro
  by_cases c1 : s = 2000
  · rw [if_pos c1]; omega
  · by_cases c4 : s = 2001
    · rw [if_neg c1, if_pos c4]; omega
    · rw [if_neg c1, if_neg c4]; omega
/-- a value put into one place: what all places hold then. the block r0 is new, or what it held is nothing -/
theorem slo_put {n s x r0 : Nat} (hT : TI w A) (hn : n < 64) (hv : vs s) (hp : rs s = false → slo A n (pa s) ≠ 0)
    (h0 : slo A n s ≠ 0 → slo A n s = r0 + 1 ∧ us A r0) (hx : x = 0 ∨ (x = r0 + 1 ∧ ¬ us A r0)) (hr : r0 < 2000) (hz : ∀ k, k < 32 → pt A r0 k = 0)
    (hN : ∀ n' i, n' < 64 → 85 ≤ i → i < 95 → nd B n' i = if n' * 95 + i = lcA A n s then x else nd A n' i)
    (hP : ∀ r k, r < 2000 → k < 32 → pt B r k = if 6080 + r * 274 + (2 + k) = lcA A n s then x else pt A r k) :
    ∀ n' s', n' < 64 → vs s' → slo B n' s' = if n' = n ∧ s' = s then x else slo A n' s' := by
  -- a place in a node
  have root : ∀ n' s', n' < 64 → rs s' = true → slo B n' s' = if n' = n ∧ s' = s then x else slo A n' s' := by
    intro n' s' hn' hs'
    obtain ⟨l1, l2⟩ := ro_lt hs'
    rw [slo_r hs', slo_r hs', hN n' (ro s') hn' l1 l2]
    by_cases c : rs s = true
    · have e : lcA A n s = n * 95 + ro s := by unfold lcA; rw [if_pos c]
      obtain ⟨m1, m2⟩ := ro_lt c
      rw [e]
      by_cases d : n' = n ∧ s' = s
      · rw [if_pos d, if_pos (by rw [d.1, d.2])]
      · rw [if_neg d, if_neg (fun q => d (by
          have : n' = n := by omega
          have : ro s' = ro s := by omega
          exact ⟨by omega, ro_inj hs' c this⟩))]
    · have c' : rs s = false := by cases h : rs s <;> simp_all
      have e : lcA A n s = 6080 + (slo A n (pa s) - 1) * 274 + (2 + kx s) := by unfold lcA; rw [if_neg c]
      rw [e, if_neg (by omega), if_neg (fun d => by rw [d.2] at hs'; exact c hs')]
  -- a place in a table, where the table's own place is settled
  have tab : ∀ n' s', n' < 64 → vs s' → rs s' = false → (slo B n' (pa s') = if n' = n ∧ pa s' = s then x else slo A n' (pa s')) → slo B n' s' = if n' = n ∧ s' = s then x else slo A n' s' := by
    intro n' s' hn' hv' hs' ih
    obtain ⟨a1, a2, a3, a4, a5⟩ := slo_n (A := A) (n := n') hv' hs'
    obtain ⟨b1, -, -, -, -⟩ := slo_n (A := B) (n := n') hv' hs'
    rw [b1, ih]
    by_cases c : n' = n ∧ pa s' = s
    · have ne : ¬ (n' = n ∧ s' = s) := fun d => by have := c.2; rw [← d.2] at this; exact a5 this
      rw [if_pos c, if_neg ne]
      -- the place that changes is the table's own
      have hs2 : 2000 ≤ s := by rw [← c.2]; exact a3
      have e1 : slo A n' s' = 0 := by
        rw [a1, c.1, c.2]
        by_cases z : slo A n s = 0
        · rw [if_pos z]
        · rw [if_neg z, (h0 z).1]
          exact hz _ a4
      rw [e1]
      rcases hx with hx | ⟨hx, hx2⟩
      · rw [if_pos hx]
      · rw [if_neg (by omega), hx, show r0 + 1 - 1 = r0 by omega, hP r0 (kx s') hr a4, if_neg, hz _ a4]
        intro q
        by_cases cr : rs s = true
        · have e : lcA A n s = n * 95 + ro s := by unfold lcA; rw [if_pos cr]
          have := ro_lt cr
          omega
        · have cr' : rs s = false := by cases h : rs s <;> simp_all
          have e : lcA A n s = 6080 + (slo A n (pa s) - 1) * 274 + (2 + kx s) := by unfold lcA; rw [if_neg cr]
          obtain ⟨f1, f2, f3, f4, f5⟩ := slo_n (A := A) (n := n) hv cr'
          have hp := hp cr'
          obtain ⟨y, hy⟩ : ∃ y, slo A n (pa s) = y + 1 := ⟨slo A n (pa s) - 1, by omega⟩
          have u := (hT.2.1 n (pa s) y hn f2 hy).2.1
          have : y = r0 := by omega
          rw [this] at u
          exact hx2 u
    · rw [if_neg c]
      by_cases z : slo A n' (pa s') = 0
      · rw [if_pos z]
        have e1 : slo A n' s' = 0 := by rw [a1, if_pos z]
        rw [e1]
        by_cases d : n' = n ∧ s' = s
        · exfalso
          rw [d.1, d.2] at z
          rw [d.2] at hs'
          exact hp hs' z
        · rw [if_neg d]
      · rw [if_neg z]
        obtain ⟨y, hy⟩ : ∃ y, slo A n' (pa s') = y + 1 := ⟨slo A n' (pa s') - 1, by omega⟩
        obtain ⟨u1, u2, u3⟩ := hT.2.1 n' (pa s') y hn' a2 hy
        rw [hy, show y + 1 - 1 = y by omega, hP y (kx s') u1 a4]
        have e1 : slo A n' s' = pt A y (kx s') := by rw [a1, if_neg z, hy, show y + 1 - 1 = y by omega]
        rw [e1]
        by_cases d : n' = n ∧ s' = s
        · rw [if_pos d, if_pos]
          have cr : ¬ rs s = true := by rw [← d.2, hs']; decide
          unfold lcA
          rw [if_neg cr, ← d.1, ← d.2, hy]
          omega
        · rw [if_neg d, if_neg]
          intro q
          apply d
          by_cases cr : rs s = true
          · have e : lcA A n s = n * 95 + ro s := by unfold lcA; rw [if_pos cr]
            have := ro_lt cr
            omega
          · have cr' : rs s = false := by cases h : rs s <;> simp_all
            have e : lcA A n s = 6080 + (slo A n (pa s) - 1) * 274 + (2 + kx s) := by unfold lcA; rw [if_neg cr]
            obtain ⟨f1, f2, f3, f4, f5⟩ := slo_n (A := A) (n := n) hv cr'
            have hp := hp cr'
            obtain ⟨y2, hy2⟩ : ∃ y2, slo A n (pa s) = y2 + 1 := ⟨slo A n (pa s) - 1, by omega⟩
            have u := (hT.2.1 n (pa s) y2 hn f2 hy2).2.2
            have ey : y2 = y := by omega
            have ek : kx s' = kx s := by omega
            rw [ey, u3] at u
            have u1 : n' = n := congrArg Prod.fst u
            have u2 : pa s' = pa s := congrArg Prod.snd u
            exact ⟨u1, pa_inj hv' hv hs' cr' u2 ek⟩
  intro n' s' hn' hv'
  cases hs' : rs s' with
  | true => exact root n' s' hn' hs'
  | false =>
    obtain ⟨-, a2, a3, -, -⟩ := slo_n (A := A) (n := n') hv' hs'
    refine tab n' s' hn' hv' hs' ?_
    cases hs2 : rs (pa s') with
    | true => exact root n' (pa s') hn' hs2
    | false =>
      obtain ⟨-, b2, b3, -, -⟩ := slo_n (A := A) (n := n') a2 hs2
      refine tab n' (pa s') hn' a2 hs2 ?_
      have hs3 : rs (pa (pa s')) = true := by
        have q := rs_f hs2
        unfold vs at a2
        have p1 : ∀ t, 2100 ≤ t → pa t = 2001 := fun t ht => by unfold pa; rw [if_pos ht]
        have : pa (pa s') = 2001 := p1 _ (by omega)
        rw [this]
        rfl
      exact root n' _ hn' hs3
end SLO
