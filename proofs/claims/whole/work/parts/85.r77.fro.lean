/-! ===== PURE: the relation behind format ===== -/
def FMc (l r : Nat) (E C : tS) (D : tD) : Prop :=
  (C 1 8 = 34 + l + r ∧ C 1 9 = 0 ∧ C 1 10 = 0 ∧ C 1 11 = 0 ∧ C 1 12 = 0 ∧ C 1 13 = 0 ∧ C 1 14 = 1) ∧
  (∀ b, b < 6130 → C 2 b = 0 ∧ C 4 b = 0 ∧ C 5 b = 0) ∧
  (C 20 8 = l ∧ C 20 9 = 0 ∧ C 20 10 = 0 ∧ C 20 11 = 0 ∧ (C 20 12 = 0 ∧ C 20 13 = 0 ∧ C 20 14 = 0 ∧ C 20 15 = 0 ∧ C 20 16 = 0) ∧ C 20 17 = 0) ∧
  (rk3 C ∧ C 10 7 = 34 + r ∧ C 10 8 = l ∧ C 10 15 = 0 ∧ C 10 16 = 1) ∧
  ((∀ x, x < r → C 12 (34 + x) = 1) ∧ (∀ c, C 15 c = 0 ∧ C 16 c = 0 ∧ C 17 c = 0) ∧ ∀ n, n < 64 → C 19 n = 0) ∧ WF0 (C 11) ∧
  ((C 26 1 = 0 ∧ (C 28 1 = 0 ∧ C 28 2 = 0 ∧ C 28 3 = 0) ∧ (C 30 1 = 0 ∧ C 30 2 = 0 ∧ C 30 3 = 0)) ∧ (∀ j, C 27 j = E 70 j ∧ C 29 j = E 62 j ∧ C 31 j = E 63 j)) ∧
  (∀ h, h < 16 → C 32 h = 0) ∧
  (dL D = 0 ∧ dH D = 0) ∧ (∀ q, q < 1088 → mW D 0 q = C 11 q) ∧ ∀ q, q < 65088 → C 100 q = mW D 0 q
section FRO
variable {A B E C : tS} {D : tD} {J : tJ} {l r t n m k i j q b K N : Nat}
theorem fo_z (l r : Nat) (A : tS) (h : q = 0 ∨ q = 15 ∨ q = 16 ∨ q = 19 ∨ q = 20 ∨ q = 21 ∨ (28 ≤ q ∧ q ≤ 33) ∨ q = 35 ∨ q = 46 ∨ q = 57) : foA l r A 35 q = 0 := by
  rw [fo_num, if_neg (by omega), if_neg (by omega), if_neg (by omega), if_pos h]
theorem fo_6 (l r : Nat) (A : tS) : foA l r A 35 6 = l := by rw [fo_num, if_pos rfl]
theorem fo_7 (l r : Nat) (A : tS) : foA l r A 35 7 = r := by rw [fo_num, if_neg (by decide), if_pos rfl]
theorem fo_18 (l r : Nat) (A : tS) : foA l r A 35 18 = 1 := by rw [fo_num, if_neg (by decide), if_neg (by decide), if_pos rfl]
theorem fo_34 (l r : Nat) (A : tS) : foA l r A 35 34 = A 35 34 := by rw [fo_num, if_neg (by decide), if_neg (by decide), if_neg (by decide), if_neg (by omega)]
theorem fm_RO (l1 : 40 ≤ l) (l2 : l ≤ 4096) (r2 : r ≤ 2000) (hC : FMc l r (foA l r A) C D) (ho : okT (foA l r A)) (h46 : ∀ b, 6200 ≤ b → A 46 b = 0) (hJ : ∀ i, J.1 40 i < 1000000000) : RO (PH t) z00 z00 w00 C D (foA l r A) (foJ J (foA l r A)) := by
  have z := fun q h => fo_z (q := q) l r A h
  have e6 := fo_6 l r A
  have e7 := fo_7 l r A
  have e18 := fo_18 l r A
  obtain ⟨o1, o2, o3, o4, o5, o6, o7⟩ := fo_rows l r A
  have rt := fo_RT l r A
  have ph : PH t w00 (foA l r A) := rt_PH rt ho
  generalize foA l r A = E at *
  obtain ⟨⟨a1, a2, a3, a4, a5, a6, a7⟩, c2, ⟨d1, d2, d3, d4, ⟨d5, d6, d7, d8, d9⟩, d10⟩, ⟨f1, f2, f3, f4, f5⟩, ⟨g1, g2, g3⟩, hW, ⟨⟨p1, ⟨p2, p3, p4⟩, p5, p6, p7⟩, p8⟩, h32, ⟨y1, y2⟩, y3, y4⟩ := hC
  have z35 := z 35 (by omega)
  have z28 := z 28 (by omega)
  have z29 := z 29 (by omega)
  have z30 := z 30 (by omega)
  have z31 := z 31 (by omega)
  have z32 := z 32 (by omega)
  have z33 := z 33 (by omega)
  have z46 := z 46 (by omega)
  have z16 := z 16 (by omega)
  have z57 := z 57 (by omega)
  have b46 : ∀ b, E 46 b = 0 := fun b => by
    by_cases c : b < 6200
    · exact (o2 b c).2.1
    · rw [o3 b (by omega)]
      exact h46 b (by omega)
  have mWF : WF0 (mW D 0) := ⟨by rw [y3 64 (by omega)]; exact hW.1, fun q hq h => by rw [y3 q hq]; exact hW.2 q hq h⟩
  have us0 : ∀ r, r < 2000 → ¬ us E r := fun r hr hu => hu (rt_us rt hr)
  have hBJ : (∀ x, z00 x ≤ C 10 15 ∧ C 10 15 ≤ E 35 34) := fun x => ⟨Nat.zero_le _, by rw [f4]; exact Nat.zero_le _⟩
  have ls : ∀ v, v < 2 → lsF E v = 0 ∧ lsN E v = 0 := fun v hv => by
    unfold lsF lsN
    rw [o7 v hv]
    exact ⟨rfl, rfl⟩
  have tp : TP C E := ⟨by rw [p1, z57], fun j => (p8 j).1, ⟨by rw [p2, o7 0 (by omega)], by rw [p3, (ls 0 (by omega)).1], by rw [p4, (ls 0 (by omega)).2], fun j => (p8 j).2.1⟩, by rw [p5, o7 1 (by omega)], by rw [p6, (ls 1 (by omega)).1], by rw [p7, (ls 1 (by omega)).2], fun j => (p8 j).2.2⟩
  have sr : SR z00 w00 C E := by
    refine ⟨f1, ph.2.1, rt_MR rt hW, fun r hr hu => absurd hu (us0 r hr), ⟨hBJ, fun _ _ => rfl, fun x y q => absurd rfl q, fun r hr hu => absurd hu (us0 r hr)⟩, ?_, ho, ?_⟩
    · refine ⟨⟨by rw [f2, e7], by rw [f3, e6], by rw [f5, z28], by rw [e7]; exact r2, by rw [e6]; exact l2⟩, fun x hx => ?_, fun x hx hu => ?_, fun c c1 c2 => ?_, fun b hb => ?_, fun x hx => ?_, fun c _ => (g2 c).2.2, fun n hn => ?_, fun h hh => by rw [h32 h hh, o6 h hh], fun x hx q => ?_⟩
      · rw [e7] at hx
        rw [g1 x hx, if_neg (fun q => q (rt_us rt (by omega))), (o5 x (by omega)).2, if_pos rfl]
      · rw [e7] at hx
        exact absurd hu (us0 x (by omega))
      · have : nbA E c < 6200 := by
          unfold nbA
          rw [e6]
          rw [e7] at c2
          split <;> omega
        obtain ⟨-, -, q1, q2⟩ := o2 _ this
        exact ⟨⟨fun _ => q1, fun _ => (g2 c).1⟩, ⟨fun _ => q2, fun _ => (g2 c).2.1⟩⟩
      · rw [e6, e7] at hb
        obtain ⟨-, -, q1, q2⟩ := o2 b (by omega)
        exact ⟨q1, q2⟩
      · rw [e7] at hx
        exact ⟨fun _ => (o5 x (by omega)).1, fun _ => (g2 _).2.2⟩
      · exact ⟨fun _ => o4 n hn, fun _ => g3 n hn⟩
      · rw [e7] at hx
        exact absurd (o5 x (by omega)).1 q
    · refine ⟨fun c c1 c2 _ j hj => ?_, fun r hr hu => absurd hu (us0 r hr), fun x hx q => absurd (g2 _).2.1 q, fun c _ => (g2 c).2.1, fun x hx q => ?_⟩
      · rw [y4 _ (by omega), y3 _ (by omega)]
      · rw [e7] at hx
        exact absurd (o5 x (by omega)).1 q
  refine ⟨⟨?_, ?_, ?_, ?_, fun k i hk => ?_, ⟨fun b hb e => ?_, fun j hj => ?_⟩, ⟨fun b hb => ?_, fun j hj => ?_⟩, ?_, MI_of sr, tp⟩, sr, ph, fun k i hk => ?_, ?_, fun q hq => ?_, e18, ?_, b46⟩
  · refine ⟨⟨by rw [a1, e6, e7], by rw [a2, z 15 (by omega)], by rw [a3, z16], by rw [a4, z 20 (by omega)], by rw [a5, z 21 (by omega)], by rw [a6, z 19 (by omega)], by rw [a7, e18]⟩, fun i hi => by rw [z16] at hi; omega, fun q => by omega, fun b hb => ⟨?_, fun q => ?_⟩, fun b hb => ?_, fun b hb => by rw [(c2 b hb).2.2, b46 b]⟩
    · rw [(c2 b hb).1, (o2 b (by omega)).1]
      rfl
    · rw [(o2 b (by omega)).1] at q
      omega
    · rw [(c2 b hb).2.1]
      unfold vsN
      rw [z16]
      rfl
  · refine ⟨⟨by rw [d1, e6], by rw [d3, z33], by rw [d4, z46], by rw [d5, z28], by rw [d6, z29], by rw [d7, z30], by rw [d8, z31], by rw [d9, z32]⟩, ⟨by rw [y1, z35], by rw [y2, z28]⟩, ?_, ?_, ?_, fun n h1 h2 => by omega⟩
    · unfold JO
      rw [e6, e7]
      show _ ∧ _ ∧ _ ∧ _ ∧ _ ∧ _ ∧ E 35 28 - E 35 35 ≤ 0 ∧ _
      omega
    · unfold JG
      rw [z28, z35, z33, z46, e6]
      refine ⟨fun k hk => by omega, ?_, ?_, by omega⟩
      · show 0 = (0 + 0) % l
        rw [Nat.add_zero, Nat.zero_mod]
      · show 0 ≤ l
        omega
    · rw [d2, z28, z35]
      rfl
  · exact ⟨fun i j _ h => absurd h (Nat.not_lt_zero _), fun i h => absurd h (Nat.not_lt_zero _), fun q h => absurd h (Nat.not_lt_zero _), fun i h => absurd h (Nat.not_lt_zero _), hJ⟩
  · intro n n1 n2
    rw [z28] at n2
    have n0 : n = 0 := by omega
    subst n0
    have eu : upR E 36 (E 36) = E := by
      funext p q
      unfold upR
      split
      · rename_i c
        rw [c]
      · rfl
    refine ⟨E 36, w00, ?_, ?_, ?_, fun r hr hu => ?_⟩
    · have : udC E (foJ J E) 0 = 0 := if_neg (by omega)
      rw [this]
      exact ⟨rfl, rfl⟩
    · rw [eu, Nat.zero_sub]
      exact rt_MR rt mWF
    · rw [eu]
      exact ph
    · rw [eu] at hu
      exact absurd hu (us0 r hr)
  · rw [z29, z35] at hk
    omega
  · subst e
    refine Or.inr ⟨?_, z35⟩
    rw [(o2 0 (by omega)).1]
    decide
  · rw [z16] at hj
    omega
  · rw [(o2 b hb).1]
    refine ⟨?_, (fun q => by omega), (fun q => by omega)⟩
    unfold rgP
    omega
  · rw [z16] at hj
    omega
  · exact ⟨fun _ => Nat.zero_le _, fun _ _ => rfl, fun x y q => absurd rfl q, by rw [d10]; exact Nat.zero_le _⟩
  · rw [z28, z35] at hk
    omega
  · refine Or.inr ⟨?_, z31⟩
    unfold cur
    rw [z16]
    show E 39 0 ≠ 1
    rw [(o2 0 (by omega)).1]
    decide
  · rw [y4 q hq, z28, z35]
  · rw [z28, z35]
    rfl
end FRO
