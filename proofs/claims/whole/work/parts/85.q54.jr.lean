/-! ===== PURE: the two journals side by side ===== -/
/-- META's words behind m transactions -/
def mW (D : tD) : Nat → Nat → Nat
  | 0, q => (match dP D 21 (q / 32) with | none => 0 | some a => dW D a (q % 32))
  | m + 1, q => if sr (fun k => dX D 2 (dL D + m + 1) k == q / 32) 0 (dT D 9 (dL D + m + 1)) < dT D 9 (dL D + m + 1) then 0 else if sr (fun k => dX D 0 (dL D + m + 1) k == q / 32) 0 (dT D 8 (dL D + m + 1)) < dT D 8 (dL D + m + 1) then dW D (dX D 1 (dL D + m + 1) (sr (fun k => dX D 0 (dL D + m + 1) k == q / 32) 0 (dT D 8 (dL D + m + 1)))) (q % 32) else mW D m q
/-- a transaction and its record -/
def TR (sp : Nat → Nat) (D : tD) (A : tS) (J : tJ) (n k : Nat) : Prop :=
  (dT D 2 n = sp (J.1 37 k) ∧ sp (J.1 37 k) ≠ 0 ∧ dT D 3 n = J.1 38 k ∧ dT D 4 n = J.1 39 k ∧ dT D 8 n = J.1 42 k ∧ dT D 9 n = J.1 43 k) ∧
  (∀ i, i < dT D 8 n → J.1 44 (J.1 41 k + i) = nbA A (dX D 0 n i) ∧ 1 ≤ dX D 0 n i ∧ dX D 0 n i < 34 + A 35 7) ∧
  (∀ i, i < dT D 9 n → J.1 44 (J.1 41 k + J.1 42 k + i) = nbA A (dX D 2 n i) ∧ 1 ≤ dX D 2 n i ∧ dX D 2 n i < 34 + A 35 7) ∧
  (∀ i i', i < dT D 8 n → i' < dT D 8 n → dX D 0 n i = dX D 0 n i' → i = i') ∧
  (1 ≤ J.1 39 k ∧ J.1 39 k ≤ A 35 6 ∧ J.1 38 k < A 35 6 ∧ dT D 8 n < 2100 ∧ dT D 9 n < 2100)
/-- the journals' numbers -/
def JF (C A : tS) : Prop := C 20 8 = A 35 6 ∧ C 20 10 = A 35 33 ∧ C 20 11 = A 35 46 ∧ C 20 12 = A 35 28 ∧ C 20 13 = A 35 29 ∧ C 20 14 = A 35 30 ∧ C 20 15 = A 35 31 ∧ C 20 16 = A 35 32
/-- in what order they are -/
def JO (A : tS) (J : tJ) : Prop := A 35 32 = A 35 35 ∧ A 35 32 ≤ A 35 31 ∧ A 35 31 ≤ A 35 30 ∧ A 35 30 ≤ A 35 29 ∧ A 35 29 ≤ A 35 28 ∧ A 35 28 < 1000 ∧ A 35 28 - A 35 35 ≤ J.2.1 ∧ (40 ≤ A 35 6 ∧ A 35 6 ≤ 4096 ∧ A 35 7 ≤ 2000)
/-- the log as a ring -/
def JG (A : tS) (J : tJ) : Prop := (∀ k, k < A 35 28 - A 35 35 → J.1 38 k = (A 35 46 + szL J.1 0 k) % A 35 6) ∧ A 35 33 = (A 35 46 + szL J.1 0 (A 35 28 - A 35 35)) % A 35 6 ∧ szL J.1 0 (A 35 28 - A 35 35) ≤ A 35 6 ∧ A 35 46 < A 35 6
def JR (sp : Nat → Nat) (C : tS) (D : tD) (A : tS) (J : tJ) : Prop := JF C A ∧ (dL D = A 35 35 ∧ dH D = A 35 28) ∧ JO A J ∧ JG A J ∧ C 20 9 = szL J.1 0 (A 35 28 - A 35 35) ∧ ∀ n, dL D < n → n ≤ dH D → TR sp D A J n (n - A 35 35 - 1)
section JRS
variable {bi sp : Nat → Nat} {w : Nat → Nat × Nat} {C C' : tS} {D D' D1 : tD} {A B : tS} {J J' : tJ} {n k m q : Nat}
theorem sr_hit {p : Nat → Bool} {N k : Nat} (hk : k < N) (hp : p k = true) : sr p 0 N < N := by
  refine Classical.byContradiction (fun c => ?_)
  have := sr_no p N 0 k (Nat.zero_le _) (by have := (sr_le p N 0).2; omega)
  rw [hp] at this
  cases this
theorem sr_miss {p : Nat → Bool} {N : Nat} (h : ∀ k, k < N → p k = false) : sr p 0 N = N := by
  have a := sr_le p N 0
  by_cases c : sr p 0 N < 0 + N
  · have b := sr_is p N 0 c
    rw [h _ (by omega)] at b
    cases b
  · omega
/-- a transaction folded: the words are the same, counted from the next -/
theorem mW_fd (s : sJ D D1) (f : fdB D D1 (dL D + 1)) : ∀ m q, mW (dL1 D1) m q = mW D (m + 1) q
  | 0, q => by
    obtain ⟨s1, s2, s3, s4, s5, s6, s7, s8, s9⟩ := s
    show (match dP D1 21 (q / 32) with | none => 0 | some a => dW D1 a (q % 32)) = (if sr (fun k => dX D 2 (dL D + 0 + 1) k == q / 32) 0 (dT D 9 (dL D + 0 + 1)) < dT D 9 (dL D + 0 + 1) then 0 else if sr (fun k => dX D 0 (dL D + 0 + 1) k == q / 32) 0 (dT D 8 (dL D + 0 + 1)) < dT D 8 (dL D + 0 + 1) then dW D (dX D 1 (dL D + 0 + 1) (sr (fun k => dX D 0 (dL D + 0 + 1) k == q / 32) 0 (dT D 8 (dL D + 0 + 1)))) (q % 32) else (match dP D 21 (q / 32) with | none => 0 | some a => dW D a (q % 32)))
    rw [Nat.add_zero, s1]
    obtain ⟨f1, f2⟩ := f
    by_cases c : sr (fun k => dX D 2 (dL D + 1) k == q / 32) 0 (dT D 9 (dL D + 1)) < dT D 9 (dL D + 1)
    · rw [if_pos c]
      have e := sr_is (fun k => dX D 2 (dL D + 1) k == q / 32) (dT D 9 (dL D + 1)) 0 (by omega)
      have e : dX D 2 (dL D + 1) (sr (fun k => dX D 2 (dL D + 1) k == q / 32) 0 (dT D 9 (dL D + 1))) = q / 32 := by simpa using e
      have := f1 _ c
      rw [e] at this
      rw [this]
    · rw [if_neg c]
      have nr : ∀ k, k < dT D 9 (dL D + 1) → dX D 2 (dL D + 1) k ≠ q / 32 := fun k hk e => c (sr_hit hk (by simp [e]))
      obtain ⟨g1, g2⟩ := f2 (q / 32) nr
      by_cases d : sr (fun k => dX D 0 (dL D + 1) k == q / 32) 0 (dT D 8 (dL D + 1)) < dT D 8 (dL D + 1)
      · rw [if_pos d]
        have e := sr_is (fun k => dX D 0 (dL D + 1) k == q / 32) (dT D 8 (dL D + 1)) 0 (by omega)
        have e : dX D 0 (dL D + 1) (sr (fun k => dX D 0 (dL D + 1) k == q / 32) 0 (dT D 8 (dL D + 1))) = q / 32 := by simpa using e
        rw [g1 _ d e]
      · rw [if_neg d, g2 (fun k hk e => d (sr_hit hk (by simp [e])))]
  | m + 1, q => by
    have ih := mW_fd s f m q
    obtain ⟨s1, s2, s3, s4, s5, s6, s7, s8, s9⟩ := s
    have e : dL (dL1 D1) + m + 1 = dL D + (m + 1) + 1 := by
      show dL D1 + 1 + m + 1 = _
      rw [s4]
      omega
    show (if sr (fun k => dX D1 2 (dL (dL1 D1) + m + 1) k == q / 32) 0 (dT D1 9 (dL (dL1 D1) + m + 1)) < dT D1 9 (dL (dL1 D1) + m + 1) then 0 else if sr (fun k => dX D1 0 (dL (dL1 D1) + m + 1) k == q / 32) 0 (dT D1 8 (dL (dL1 D1) + m + 1)) < dT D1 8 (dL (dL1 D1) + m + 1) then dW D1 (dX D1 1 (dL (dL1 D1) + m + 1) (sr (fun k => dX D1 0 (dL (dL1 D1) + m + 1) k == q / 32) 0 (dT D1 8 (dL (dL1 D1) + m + 1)))) (q % 32) else mW (dL1 D1) m q) = _
    rw [e, s1, s2, s3, ih]
    rfl
/-- the same base, the same transactions: the same words -/
theorem mW_cong (s : sP D D') (kw : KW D D') (hq : q / 32 < 2034) : ∀ m, m ≤ dH D - dL D → mW D' m q = mW D m q
  | 0, _ => by
    obtain ⟨s1, s2, s3, s4, s5⟩ := s
    show (match dP D' 21 (q / 32) with | none => 0 | some a => dW D' a (q % 32)) = (match dP D 21 (q / 32) with | none => 0 | some a => dW D a (q % 32))
    rw [s1]
    cases e : dP D 21 (q / 32) with
    | none => rfl
    | some a =>
      show dW D' a (q % 32) = dW D a (q % 32)
      rw [kw.1 21 _ a (Or.inr (Or.inr ⟨rfl, hq⟩)) e]
  | m + 1, hm => by
    have ih := mW_cong s kw hq m (by omega)
    obtain ⟨s1, s2, s3, s4, s5⟩ := s
    show (if sr (fun k => dX D' 2 (dL D' + m + 1) k == q / 32) 0 (dT D' 9 (dL D' + m + 1)) < dT D' 9 (dL D' + m + 1) then 0 else if sr (fun k => dX D' 0 (dL D' + m + 1) k == q / 32) 0 (dT D' 8 (dL D' + m + 1)) < dT D' 8 (dL D' + m + 1) then dW D' (dX D' 1 (dL D' + m + 1) (sr (fun k => dX D' 0 (dL D' + m + 1) k == q / 32) 0 (dT D' 8 (dL D' + m + 1)))) (q % 32) else mW D' m q) = (if sr (fun k => dX D 2 (dL D + m + 1) k == q / 32) 0 (dT D 9 (dL D + m + 1)) < dT D 9 (dL D + m + 1) then 0 else if sr (fun k => dX D 0 (dL D + m + 1) k == q / 32) 0 (dT D 8 (dL D + m + 1)) < dT D 8 (dL D + m + 1) then dW D (dX D 1 (dL D + m + 1) (sr (fun k => dX D 0 (dL D + m + 1) k == q / 32) 0 (dT D 8 (dL D + m + 1)))) (q % 32) else mW D m q)
    rw [s2, s3, s4, ih]
    by_cases c : sr (fun k => dX D 0 (dL D + m + 1) k == q / 32) 0 (dT D 8 (dL D + m + 1)) < dT D 8 (dL D + m + 1)
    · rw [if_pos c, if_pos c, kw.2 (dL D + m + 1) _ (by omega) (by omega) c]
    · rw [if_neg c, if_neg c]
theorem JP_KW (h : JP D D') : (dP D' 21 = dP D 21 ∧ dT D' = dT D ∧ dX D' = dX D ∧ dL D' = dL D ∧ dH D' = dH D) ∧ (∀ c a, c < 2034 → dP D 21 c = some a → dW D' a = dW D a) ∧ ∀ n k, dL D < n → n ≤ dH D → k < dT D 8 n → dW D' (dX D 1 n k) = dW D (dX D 1 n k) := by
  obtain ⟨⟨h1, h2, h3, h4, h5, h6, h7⟩, h8, h9⟩ := h
  exact ⟨⟨h1, h4, h5, h6, h7⟩, h8, h9⟩
/-- the disk's rows change: the journal's words are the same -/
theorem mW_JP (h : JP D D') (hq : q / 32 < 2034) : ∀ m, m ≤ dH D - dL D → mW D' m q = mW D m q
  | 0, _ => by
    obtain ⟨⟨s1, s2, s3, s4, s5⟩, k1, k2⟩ := JP_KW h
    show (match dP D' 21 (q / 32) with | none => 0 | some a => dW D' a (q % 32)) = (match dP D 21 (q / 32) with | none => 0 | some a => dW D a (q % 32))
    rw [s1]
    cases e : dP D 21 (q / 32) with
    | none => rfl
    | some a =>
      show dW D' a (q % 32) = dW D a (q % 32)
      rw [k1 _ a hq e]
  | m + 1, hm => by
    have ih := mW_JP h hq m (by omega)
    obtain ⟨⟨s1, s2, s3, s4, s5⟩, k1, k2⟩ := JP_KW h
    show (if sr (fun k => dX D' 2 (dL D' + m + 1) k == q / 32) 0 (dT D' 9 (dL D' + m + 1)) < dT D' 9 (dL D' + m + 1) then 0 else if sr (fun k => dX D' 0 (dL D' + m + 1) k == q / 32) 0 (dT D' 8 (dL D' + m + 1)) < dT D' 8 (dL D' + m + 1) then dW D' (dX D' 1 (dL D' + m + 1) (sr (fun k => dX D' 0 (dL D' + m + 1) k == q / 32) 0 (dT D' 8 (dL D' + m + 1)))) (q % 32) else mW D' m q) = (if sr (fun k => dX D 2 (dL D + m + 1) k == q / 32) 0 (dT D 9 (dL D + m + 1)) < dT D 9 (dL D + m + 1) then 0 else if sr (fun k => dX D 0 (dL D + m + 1) k == q / 32) 0 (dT D 8 (dL D + m + 1)) < dT D 8 (dL D + m + 1) then dW D (dX D 1 (dL D + m + 1) (sr (fun k => dX D 0 (dL D + m + 1) k == q / 32) 0 (dT D 8 (dL D + m + 1)))) (q % 32) else mW D m q)
    rw [s2, s3, s4, ih]
    by_cases c : sr (fun k => dX D 0 (dL D + m + 1) k == q / 32) 0 (dT D 8 (dL D + m + 1)) < dT D 8 (dL D + m + 1)
    · rw [if_pos c, if_pos c, k2 (dL D + m + 1) _ (by omega) (by omega) c]
    · rw [if_neg c, if_neg c]
/-- META is told by its words alone -/
theorem MR_W {V W : Nat → Nat} (ho : okT A) (h : MR bi w W A) (e : ∀ q, q < 65088 → V q = W q) : MR bi w V A := by
  obtain ⟨m1, m2, m3, m4⟩ := h
  have oe : ∀ c i, c * 32 + i / 8 < 65088 → oW V c i = oW W c i := fun c i hc => oW_e (e _ hc) rfl
  refine ⟨fun j hj => by rw [e j (by omega)]; exact m1 j hj, fun r hr => by rw [e _ (by omega)]; exact m2 r hr, fun n hn => ?_, fun r hr hu => ?_⟩
  · obtain ⟨a1, a2, a3, a4⟩ := m3 n hn
    have b4 := (nd_k ho hn).2.2.2.2
    refine ⟨by rw [e _ (by omega)]; exact a1, fun c i hi => by rw [oe _ _ (by omega)]; exact a2 c i hi, fun c i hi => by rw [e _ (by omega)]; exact a3 c i hi, fun c i hi => by rw [e _ (by omega)]; exact a4 c i hi⟩
  · obtain ⟨b1, b2⟩ := m4 r hr hu
    refine ⟨fun c k hk => by rw [e _ (by omega)]; exact b1 c k hk, fun c d k hk => ?_⟩
    obtain ⟨c1, c2⟩ := b2 c d k hk
    have l := (eZ_lt ho (r := r) hk).2.1
    refine ⟨fun q i hi => by rw [e _ (by omega)]; exact c1 q i hi, fun q => ?_⟩
    obtain ⟨d1, d2, d3⟩ := c2 q
    exact ⟨by rw [oe _ _ (by omega)]; exact d1, by rw [oe _ _ (by omega)]; exact d2, fun i hi => by rw [oe _ _ (by omega)]; exact d3 i hi⟩
theorem sTz_szL (e : ∀ n, dT D 4 (dL D + n + 1) = J.1 39 n) : ∀ m k, (∀ n, n < k + m → dT D 4 (dL D + n + 1) = J.1 39 n) → sTz D (dL D + k) m = szL J.1 k m
  | 0, _, _ => rfl
  | m + 1, k, h => by
    show dT D 4 (dL D + k + 1) + sTz D (dL D + k + 1) m = J.1 39 k + szL J.1 (k + 1) m
    rw [h k (by omega)]
    exact congrArg _ (sTz_szL e m (k + 1) (fun n hn => h n (by omega)))
theorem szL_add (X : tS) : ∀ m k m', szL X k (m + m') = szL X k m + szL X (k + m) m'
  | 0, k, m' => by
    show szL X k (0 + m') = 0 + szL X (k + 0) m'
    rw [Nat.zero_add, Nat.zero_add]
    rfl
  | m + 1, k, m' => by
    rw [show m + 1 + m' = m + m' + 1 by omega]
    show X 39 k + szL X (k + 1) (m + m') = X 39 k + szL X (k + 1) m + szL X (k + (m + 1)) m'
    rw [szL_add X m (k + 1) m', show k + 1 + m = k + (m + 1) by omega]
    omega
theorem szL_cong {X Y : tS} : ∀ m k k', (∀ i, i < m → X 39 (k + i) = Y 39 (k' + i)) → szL X k m = szL Y k' m
  | 0, _, _, _ => rfl
  | m + 1, k, k', h => by
    show X 39 k + szL X (k + 1) m = Y 39 k' + szL Y (k' + 1) m
    rw [show X 39 k = Y 39 k' from h 0 (by omega), szL_cong m (k + 1) (k' + 1) (fun i hi => by have := h (i + 1) (by omega); rwa [show k + 1 + i = k + (i + 1) by omega, show k' + 1 + i = k' + (i + 1) by omega])]
end JRS
