/-! ===== PURE: the reference's constructor ===== -/
def A00 : tS := fun o j => if o = 71 ∨ (o = 35 ∧ j = 19) then 1 else 0
def J00 : tJ := ((fun _ _ => 0), 0, 0, fun _ _ => False)
section RIN
variable {b0 fu u k : Nat} {τ0 σ τ ρ : tM} {A : tS} {J : tJ} {N : Nat}
theorem A00_dec (o j : Nat) : decA o j (A00 o j) = 0 := by
  by_cases c : o = 71 ∨ (o = 35 ∧ j = 19)
  · have e : A00 o j = 1 := if_pos c
    rw [e]
    rcases c with rfl | ⟨rfl, rfl⟩
    · rfl
    · rfl
  · have e : A00 o j = 0 := if_neg c
    rw [e]
    unfold decA
    split
    · rw [if_neg (fun q => c (Or.inr ⟨rfl, q⟩))]
      rfl
    all_goals first | rfl | exact absurd (Or.inl rfl) c
theorem bndA_2 (o : Nat) : 2 ≤ bndA o := by
  unfold bndA
  split <;> decide
theorem A00_ok : okA A00 := fun o j => by
  have h1 : A00 o j ≤ 1 := by
    unfold A00
    split <;> decide
  have := bndA_2 o
  have := bndB_le o j
  omega
theorem A00_36 (j : Nat) : A00 36 j = 0 := if_neg (by omega)
theorem A00_usd : usd A00 = 0 := by
  unfold usd
  exact cn_all0 2000 0 (fun r _ _ => by rw [A00_36]; rfl)
theorem cnt_0 (f : Nat) : cntD 0 0 0 f = 0 := by
  unfold cntD
  split
  · rfl
  · split <;> rfl
theorem MB_layR (h : MB b0 35 τ0 σ 73 u Kr (Rr b0)) : LayRy b0 σ := by
  obtain ⟨h1, -, -, -, h5⟩ := h
  have k : ∀ i, 35 ≤ i → i < 73 → tk σ (b0 + i) = Kr i := fun i hb hi => (h5 i hb hi).1
  have a : ∀ i j, 35 ≤ i → i < 73 → tA σ (b0 + i) j = Rr b0 i j := fun i j hb hi => ((h5 i hb hi).2 j).2.2
  unfold LayRy
  rw [k 35 (by omega) (by omega), k 36 (by omega) (by omega), k 39 (by omega) (by omega), k 40 (by omega) (by omega), k 41 (by omega) (by omega), k 42 (by omega) (by omega), k 43 (by omega) (by omega), k 44 (by omega) (by omega), k 45 (by omega) (by omega), k 46 (by omega) (by omega), k 47 (by omega) (by omega), k 48 (by omega) (by omega), k 49 (by omega) (by omega), k 50 (by omega) (by omega), k 51 (by omega) (by omega), k 52 (by omega) (by omega), k 61 (by omega) (by omega), k 62 (by omega) (by omega), k 63 (by omega) (by omega), k 64 (by omega) (by omega), k 65 (by omega) (by omega), k 66 (by omega) (by omega), k 67 (by omega) (by omega), k 68 (by omega) (by omega), k 69 (by omega) (by omega), k 70 (by omega) (by omega), k 71 (by omega) (by omega), k 72 (by omega) (by omega), a 35 1 (by omega) (by omega), a 35 8 (by omega) (by omega), a 35 9 (by omega) (by omega), a 35 10 (by omega) (by omega), a 35 11 (by omega) (by omega), a 35 12 (by omega) (by omega), a 35 13 (by omega) (by omega), a 35 14 (by omega) (by omega), a 35 17 (by omega) (by omega), a 35 22 (by omega) (by omega), a 35 23 (by omega) (by omega), a 35 24 (by omega) (by omega), a 35 25 (by omega) (by omega), a 35 26 (by omega) (by omega), a 35 27 (by omega) (by omega), a 35 47 (by omega) (by omega), a 35 48 (by omega) (by omega), a 35 52 (by omega) (by omega), a 35 54 (by omega) (by omega), a 35 55 (by omega) (by omega), a 35 56 (by omega) (by omega), a 35 58 (by omega) (by omega), a 35 59 (by omega) (by omega), a 61 0 (by omega) (by omega), a 61 1 (by omega) (by omega)]
  exact ⟨by omega, rfl, rfl, rfl, rfl, rfl, rfl, rfl, rfl, rfl, rfl, rfl, rfl, rfl, rfl, rfl, rfl, rfl, rfl, rfl, rfl, rfl, rfl, rfl, rfl, rfl, rfl, rfl, rfl, rfl, rfl, rfl, rfl, rfl, rfl, rfl, rfl, rfl, rfl, rfl, rfl, rfl, rfl, rfl, rfl, rfl, rfl, rfl, rfl, rfl, rfl, rfl, rfl, rfl⟩
def ln0 (f : Nat) : Nat := if f < 4 then 4096 else if f < 44 then 64 else 1024
theorem MB_D (h : MB b0 35 τ0 σ 73 u Kr (Rr b0)) {f : Nat} (hf : isD f = true) : tA σ (b0 + 35) f = some (b0 + inD f) ∧ tk σ (b0 + inD f) = .inr (0, ln0 f) ∧ b0 + inD f < b0 + tn σ := by
  obtain ⟨h1, -, -, -, h5⟩ := h
  have k : ∀ i, 35 ≤ i → i < 73 → tk σ (b0 + i) = Kr i := fun i hb hi => (h5 i hb hi).1
  have a : ∀ j, tA σ (b0 + 35) j = Rr b0 35 j := fun j => ((h5 35 (by omega) (by omega)).2 j).2.2
  have c : f = 2 ∨ f = 3 ∨ f = 37 ∨ f = 38 ∨ f = 39 ∨ f = 40 ∨ f = 41 ∨ f = 42 ∨ f = 43 ∨ f = 44 := by
    have := isD_of hf
    omega
  rw [a f, h1]
  rcases c with rfl | rfl | rfl | rfl | rfl | rfl | rfl | rfl | rfl | rfl
  · exact ⟨rfl, (k 37 (by omega) (by omega)).trans rfl, by show b0 + 37 < b0 + 73; omega⟩
  · exact ⟨rfl, (k 38 (by omega) (by omega)).trans rfl, by show b0 + 38 < b0 + 73; omega⟩
  · exact ⟨rfl, (k 53 (by omega) (by omega)).trans rfl, by show b0 + 53 < b0 + 73; omega⟩
  · exact ⟨rfl, (k 54 (by omega) (by omega)).trans rfl, by show b0 + 54 < b0 + 73; omega⟩
  · exact ⟨rfl, (k 55 (by omega) (by omega)).trans rfl, by show b0 + 55 < b0 + 73; omega⟩
  · exact ⟨rfl, (k 56 (by omega) (by omega)).trans rfl, by show b0 + 56 < b0 + 73; omega⟩
  · exact ⟨rfl, (k 57 (by omega) (by omega)).trans rfl, by show b0 + 57 < b0 + 73; omega⟩
  · exact ⟨rfl, (k 58 (by omega) (by omega)).trans rfl, by show b0 + 58 < b0 + 73; omega⟩
  · exact ⟨rfl, (k 59 (by omega) (by omega)).trans rfl, by show b0 + 59 < b0 + 73; omega⟩
  · exact ⟨rfl, (k 60 (by omega) (by omega)).trans rfl, by show b0 + 60 < b0 + 73; omega⟩
theorem MB_RM (h : MB b0 35 τ0 σ 73 u Kr (Rr b0)) : RMy b0 J00 σ A00 0 := by
  have L := MB_layR h
  have hD := fun f hf => MB_D h (f := f) hf
  obtain ⟨h1, -, -, -, h5⟩ := h
  have i0 : ∀ i j, 35 ≤ i → i < 73 → tI σ (b0 + i) j = 0 := fun i j hb hi => ((h5 i hb hi).2 j).1
  have a : ∀ j, tA σ (b0 + 35) j = Rr b0 35 j := fun j => ((h5 35 (by omega) (by omega)).2 j).2.2
  have l0 : ∀ f, 32 ≤ ln0 f ∧ ln0 f ≤ 524288 := fun f => by
    unfold ln0
    split
    · omega
    · split <;> omega
  refine ⟨⟨L, fun o j e => ?_, A00_ok⟩, fun j => by rw [A00_36]; exact bT_pos j, fun f => b0 + inD f, ln0, fun _ _ => 0, 0, ⟨fun f hf => ?_, fun f g hf hg e => ?_, ⟨i0 35 4 (by omega) (by omega), i0 35 36 (by omega) (by omega), i0 35 45 (by omega) (by omega)⟩, Or.inl ⟨(a 49).trans rfl, (a 50).trans rfl⟩⟩, ⟨rfl, fun f h1 h2 => ?_⟩, by decide, by rw [A00_usd]; exact Nat.le_refl _, fun i hi => absurd hi (Nat.not_lt_zero _), fun p s hp => absurd hp (fun q => q)⟩
  · have l2 : 35 ≤ o ∧ o < 73 := by
      refine ⟨?_, isA_lt e⟩
      rcases Nat.lt_or_ge o 35 with q | q
      · exfalso
        have : o = 0 ∨ o = 1 ∨ o = 2 ∨ o = 3 ∨ o = 4 ∨ o = 5 ∨ o = 6 ∨ o = 7 ∨ o = 8 ∨ o = 9 ∨ o = 10 ∨ o = 11 ∨ o = 12 ∨ o = 13 ∨ o = 14 ∨ o = 15 ∨ o = 16 ∨ o = 17 ∨ o = 18 ∨ o = 19 ∨ o = 20 ∨ o = 21 ∨ o = 22 ∨ o = 23 ∨ o = 24 ∨ o = 25 ∨ o = 26 ∨ o = 27 ∨ o = 28 ∨ o = 29 ∨ o = 30 ∨ o = 31 ∨ o = 32 ∨ o = 33 ∨ o = 34 := by omega
        rcases this with rfl | rfl | rfl | rfl | rfl | rfl | rfl | rfl | rfl | rfl | rfl | rfl | rfl | rfl | rfl | rfl | rfl | rfl | rfl | rfl | rfl | rfl | rfl | rfl | rfl | rfl | rfl | rfl | rfl | rfl | rfl | rfl | rfl | rfl | rfl <;> cases e
      · exact q
    rw [i0 o j l2.1 l2.2, A00_dec]
  · obtain ⟨d1, d2, d3⟩ := hD f hf
    have z : cntD 0 J00.2.1 J00.2.2.1 f = 0 := cnt_0 f
    refine ⟨d1, d2, d3, Or.inr rfl, by rw [z]; exact Nat.zero_le _, (l0 f).2, (l0 f).1, fun i hi => ?_⟩
    rw [z] at hi
    exact absurd hi (Nat.not_lt_zero _)
  · have e : b0 + inD f = b0 + inD g := e
    have e2 : inD f = inD g := by omega
    unfold inD at e2
    have := isD_of hf
    have := isD_of hg
    by_cases c1 : f < 4
    · rw [if_pos c1] at e2
      by_cases c2 : g < 4
      · rw [if_pos c2] at e2
        omega
      · rw [if_neg c2] at e2
        omega
    · rw [if_neg c1] at e2
      by_cases c2 : g < 4
      · rw [if_pos c2] at e2
        omega
      · rw [if_neg c2] at e2
        omega
  · unfold ln0
    rw [if_neg (by omega), if_pos (by omega)]
/-- the reference with the law's cell behind it -/
theorem RM_up (h : RMy b0 J σ A N) (h74 : 74 ≤ tn τ) (hn : tn σ ≤ tn τ) (hs : ∀ a, a < b0 + tn σ → same σ τ a) : RM b0 J τ A N := by
  obtain ⟨⟨L, h2, h3⟩, h4, ad, ln, U, un, ⟨d1, d2, d3, d4⟩, h5⟩ := h
  have n73 := L.1
  have hs' : ∀ o, o < 73 → same σ τ (b0 + o) := fun o ho => hs _ (by omega)
  refine ⟨⟨?_, fun o j e => ?_, h3⟩, h4, ad, ln, U, un, ⟨fun f hf => ?_, d2, ?_, ?_⟩, h5⟩
  · unfold LayRy at L
    obtain ⟨-, L⟩ := L
    unfold LayR
    refine ⟨h74, ?_⟩
    rw [(hs' 35 (by omega)).1, (hs' 36 (by omega)).1, (hs' 39 (by omega)).1, (hs' 40 (by omega)).1, (hs' 41 (by omega)).1, (hs' 42 (by omega)).1, (hs' 43 (by omega)).1, (hs' 44 (by omega)).1, (hs' 45 (by omega)).1, (hs' 46 (by omega)).1, (hs' 47 (by omega)).1, (hs' 48 (by omega)).1, (hs' 49 (by omega)).1, (hs' 50 (by omega)).1, (hs' 51 (by omega)).1, (hs' 52 (by omega)).1, (hs' 61 (by omega)).1, (hs' 62 (by omega)).1, (hs' 63 (by omega)).1, (hs' 64 (by omega)).1, (hs' 65 (by omega)).1, (hs' 66 (by omega)).1, (hs' 67 (by omega)).1, (hs' 68 (by omega)).1, (hs' 69 (by omega)).1, (hs' 70 (by omega)).1, (hs' 71 (by omega)).1, (hs' 72 (by omega)).1, (hs' 35 (by omega)).2.2.2, (hs' 61 (by omega)).2.2.2]
    exact L
  · have l := isA_lt e
    rw [(hs' o l).2.1]
    exact h2 o j e
  · obtain ⟨e1, e2, e3, e4, e5, e6, e7, e8⟩ := d1 f hf
    have s := hs (ad f) e3
    refine ⟨by rw [(hs' 35 (by omega)).2.2.2]; exact e1, by rw [s.1]; exact e2, by omega, e4, e5, e6, e7, fun i hi => ?_⟩
    rw [s.2.1]
    exact e8 i hi
  · rw [(hs' 35 (by omega)).2.1]
    exact d3
  · rw [(hs' 35 (by omega)).2.2.2]
    exact d4
end RIN
