/-! ===== PURE: a tree that has its root alone ===== -/
/-- nothing but the root -/
def RT0 (A : tS) : Prop := A 36 0 = 2 ∧ ∀ j, j < 554080 → j ≠ 0 → A 36 j = if eP j = true then 64 else 0
def w00 : Nat → Nat × Nat := fun _ => (0, 0)
def z00 : Nat → Nat := fun _ => 0
section BAR
variable {A B E : tS} {C : tS} {D : tD} {W : Nat → Nat} {J : tJ} {l r t n m k i j q b K : Nat}
theorem rt_nd (h : RT0 A) (hn : n < 64) (hi : i < 95) : nd A n i = if n = 0 ∧ i = 0 then 2 else 0 := by
  unfold nd
  by_cases c : n = 0 ∧ i = 0
  · rw [if_pos c, c.1, c.2]
    exact h.1
  · rw [if_neg c, h.2 _ (by omega) (by omega)]
    have : eP (n * 95 + i) = false := decide_eq_false (by omega)
    rw [this, if_neg (by decide)]
theorem rt_us (h : RT0 A) (hr : r < 2000) : A 36 (6080 + r * 274) = 0 := by
  rw [h.2 _ (by omega) (by omega)]
  have : eP (6080 + r * 274) = false := decide_eq_false (by omega)
  rw [this, if_neg (by decide)]
theorem rt_pt (h : RT0 A) (hr : r < 2000) (hk : k < 32) : pt A r k = 0 := by
  unfold pt
  rw [h.2 _ (by omega) (by omega)]
  have : eP (6080 + r * 274 + (2 + k)) = false := decide_eq_false (by omega)
  rw [this, if_neg (by decide)]
theorem rt_eZ (h : RT0 A) (hr : r < 2000) (hk : k < 8) : eZ A r k 0 = 64 := by
  unfold eZ
  rw [h.2 _ (by omega) (by omega)]
  have m : (6080 + r * 274 + (34 + k * 30 + 0) - 6080) % 274 = 34 + k * 30 := by
    rw [show 6080 + r * 274 + (34 + k * 30 + 0) - 6080 = 274 * r + (34 + k * 30) by omega, Nat.mul_add_mod, Nat.mod_eq_of_lt (by omega)]
  have : eP (6080 + r * 274 + (34 + k * 30 + 0)) = true := decide_eq_true ⟨by omega, by omega, by rw [m]; omega, by rw [m, show 34 + k * 30 - 34 = 30 * k by omega, Nat.mul_mod_right]⟩
  rw [this, if_pos rfl]
theorem rt_has (h : RT0 A) (hn : n < 64) : hasA A n i = 0 := by
  have z : ∀ i, 85 ≤ i → i < 95 → nd A n i = 0 := fun i h1 h2 => by rw [rt_nd h hn h2, if_neg (by omega)]
  have lf : 8 ≤ i → leafA A n i = 0 := fun _ => by
    unfold leafA
    rw [z 93 (by omega) (by omega), z 94 (by omega) (by omega)]
    split <;> rfl
  unfold hasA
  by_cases c : i < 8
  · rw [if_pos c, z _ (by omega) (by omega)]
  · rw [if_neg c, if_pos (lf (by omega))]
theorem rt_slo (h : RT0 A) (hn : n < 64) : slo A n i = 0 := by
  have z : ∀ i, 85 ≤ i → i < 95 → nd A n i = 0 := fun i h1 h2 => by rw [rt_nd h hn h2, if_neg (by omega)]
  unfold slo
  rw [z 93 (by omega) (by omega), z 94 (by omega) (by omega), rt_has h hn]
  repeat' split
  all_goals first | rfl | (exact absurd rfl (by assumption))
theorem rt_TI (h : RT0 A) : TI w00 A := by
  refine ⟨fun r hr hu => absurd (rt_us h hr) hu, fun n s r hn _ e => ?_, fun n hn _ _ i hi => by rw [rt_nd h hn (by omega), if_neg (by omega)], fun r hr _ k hk => rt_pt h hr hk, fun r hr _ k hk => rt_eZ h hr hk⟩
  rw [rt_slo h hn] at e
  omega
theorem rt_ev (h : RT0 A) (d k : Nat) : ev A d k = 64 := by
  unfold ev
  refine if_neg (fun q => ?_)
  have : eAll A d = 0 := by
    unfold eAll
    rw [rt_nd h q.1 (by omega), if_neg (by omega)]
  omega
theorem rt_PH (h : RT0 A) (ho : okT A) : PH t w00 A := by
  have k2 : ∀ d, d < 64 → nd A d 0 = 2 → d = 0 := fun d hd e => by
    rw [rt_nd h hd (by omega)] at e
    by_cases c : d = 0
    · exact c
    · rw [if_neg (fun q => c q.1)] at e
      omega
  have kk : ∀ d, d < 64 → nd A d 0 ≠ 1 ∧ nd A d 0 ≠ 3 := fun d hd => by
    rw [rt_nd h hd (by omega)]
    split <;> omega
  have z : ∀ i, 1 ≤ i → i < 95 → nd A 0 i = 0 := fun i h1 h2 => by rw [rt_nd h (by omega) h2, if_neg (by omega)]
  have n00 : nd A 0 0 = 2 := by rw [rt_nd h (by omega) (by omega), if_pos ⟨rfl, rfl⟩]
  refine ⟨ho, rt_TI h, fun n s hn _ _ q => absurd (rt_slo h hn) q, ⟨fun d hd e => ?_, fun d k hd e hk => ?_, fun n hn e => absurd e (kk n hn).2, fun n hn _ i _ _ => rt_has h hn, fun r hr hu => absurd (rt_us h hr) hu⟩, ⟨⟨n00, z 3 (by omega) (by omega)⟩, fun d k q => absurd (rt_ev h d k) q, fun n hn q => ?_, fun n hn q => ?_, fun d hd q => ?_⟩, fun d hd e => ?_⟩
  · have := k2 d hd e
    subst this
    rw [z 1 (by omega) (by omega), z 3 (by omega) (by omega)]
    exact ⟨rfl, n00, fun i hi => by omega⟩
  · have := k2 d hd e
    subst this
    have : eAll A 0 = 0 := by
      unfold eAll
      rw [z 1 (by omega) (by omega)]
    omega
  · have := kk n hn
    have q : nd A n 0 = 1 ∨ nd A n 0 = 3 := q
    omega
  · have := k2 n hn q
    subst this
    rw [if_pos rfl]
    exact ec_none (fun d k _ _ => by rw [rt_ev h d k]; omega)
  · have := k2 d hd q
    subst this
    show nd A 0 3 < 64 ∧ nd A (nd A 0 3) 0 = 2 ∧ (0 ≠ 0 → ∃ k, ev A (nd A 0 3) k = 0) ∧ ∃ m, itE (fun n => nd A n 3) m 0 = 0
    rw [z 3 (by omega) (by omega)]
    exact ⟨by omega, n00, fun q => absurd rfl q, 0, rfl⟩
  · have := k2 d hd e
    subst this
    rw [z 1 (by omega) (by omega)]
    exact ⟨Nat.zero_le _, fun q => by omega⟩
/-- META's words of such a tree -/
def WF0 (W : Nat → Nat) : Prop := W 64 = 2 ∧ ∀ q, q < 1088 → q ≠ 64 → W q = 0
theorem rt_MR (h : RT0 A) (hW : WF0 W) : MR z00 w00 W A := by
  refine ⟨fun j hj => hW.2 j (by omega) (by omega), fun r hr => ?_, fun n hn => ⟨?_, fun q => ?_, fun _ i hi => ?_, fun q i hi => ?_⟩, fun r hr hu => absurd (rt_us h hr) hu⟩
  · rw [hW.2 _ (by omega) (by omega), if_neg (fun q => q.2 (rt_us h q.1)), Nat.zero_div]
  · by_cases c : n = 0
    · subst c
      have v0 : nd A 0 0 = 2 := by rw [rt_nd h hn (by omega), if_pos ⟨rfl, rfl⟩]
      have vi : ∀ i, 1 ≤ i → i < 95 → nd A 0 i = 0 := fun i h1 h2 => by rw [rt_nd h hn h2, if_neg (by omega)]
      rw [v0, vi 2 (by omega) (by omega), vi 3 (by omega) (by omega), vi 1 (by omega) (by omega), if_neg (by decide), if_neg (by decide)]
      exact hW.1
    · have v0 : nd A n 0 = 0 := by rw [rt_nd h hn (by omega), if_neg (fun q => c q.1)]
      rw [v0, if_pos rfl]
      exact hW.2 _ (by omega) (by omega)
  · rw [rt_nd h hn (by omega)] at q
    exfalso
    revert q
    split <;> omega
  · rw [rt_nd h hn (by omega), if_neg (by omega), hW.2 _ (by omega) (by omega)]
    rfl
  · rw [rt_nd h hn (by omega)] at q
    by_cases c : n = 0
    · rw [if_pos ⟨c, rfl⟩] at q
      omega
    · exact hW.2 _ (by omega) (by omega)
theorem fo_RT (l r : Nat) (A : tS) : RT0 (foA l r A) := fo_tree l r A
end BAR
