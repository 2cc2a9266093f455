/-! ===== PURE: the numbers after recovery, in both ===== -/
section NEW
variable {Φ : tPh} {b0 fu : Nat} {σ τ : tM} {bi sp : Nat → Nat} {w : Nat → Nat × Nat} {C C' C1 X : tS} {D D' D1 D2 : tD} {A B : tS} {J J' : tJ} {K n m k r b id wh e o un fr to en : Nat} {s : Nat → Nat}
theorem ud0_f : (∀ o, o ≠ 35 → o ≠ 36 → ud0 B to en s o = B o) ∧ ud0 B to en s 36 = s ∧ (∀ q, q ≤ 27 ∨ q = 34 ∨ (36 ≤ q ∧ q ≠ 46) → ud0 B to en s 35 q = B 35 q) ∧ (ud0 B to en s 35 28 = to ∧ ud0 B to en s 35 29 = to ∧ ud0 B to en s 35 30 = to ∧ ud0 B to en s 35 31 = to ∧ ud0 B to en s 35 32 = to ∧ ud0 B to en s 35 35 = to) ∧ ud0 B to en s 35 33 = en ∧ ud0 B to en s 35 46 = en := by
  unfold ud0
  refine ⟨fun o a b => ?_, ?_, fun q hq => ?_, ⟨?_, ?_, ?_, ?_, ?_, ?_⟩, ?_, ?_⟩
  · rw [up2_rown a, up2_rown a, up2_rown a, up2_rown a, up2_rown a, up2_rown a, up2_rown a, up2_rown a, upR_nn b]
  · rw [up2_rown (by decide), up2_rown (by decide), up2_rown (by decide), up2_rown (by decide), up2_rown (by decide), up2_rown (by decide), up2_rown (by decide), up2_rown (by decide), upR_ss]
  · rw [up2_j (by omega), up2_j (by omega), up2_j (by omega), up2_j (by omega), up2_j (by omega), up2_j (by omega), up2_j (by omega), up2_j (by omega), upR_nn (by decide)]
  · rw [up2_j (by decide), up2_j (by decide), up2_j (by decide), up2_j (by decide), up2_s]
  · rw [up2_j (by decide), up2_j (by decide), up2_j (by decide), up2_s]
  · rw [up2_j (by decide), up2_j (by decide), up2_s]
  · rw [up2_j (by decide), up2_s]
  · rw [up2_s]
  · rw [up2_j (by decide), up2_j (by decide), up2_j (by decide), up2_j (by decide), up2_j (by decide), up2_j (by decide), up2_j (by decide), up2_s]
  · rw [up2_j (by decide), up2_j (by decide), up2_j (by decide), up2_j (by decide), up2_j (by decide), up2_s]
  · rw [up2_j (by decide), up2_j (by decide), up2_j (by decide), up2_j (by decide), up2_j (by decide), up2_j (by decide), up2_s]
theorem mW_noT (h : sS D1 D2) (q : Nat) : mW (noT D2 to) 0 q = mW D1 0 q := by
  have e1 : dP (noT D2 to) = dP D2 := rfl
  have e2 : dW (noT D2 to) = dW D2 := rfl
  unfold mW
  rw [e1, e2, h.2, h.1.1]
/-- where the log begins anew -/
theorem ud_en (h : JR sp C D B J) (h1 : B 35 35 ≤ to) (h2 : to ≤ B 35 28) (hc : C' 20 11 = if to - dL D = 0 then C 20 11 else wrC C (dT D 3 (dL D + (to - dL D)) + dT D 4 (dL D + (to - dL D)))) : C' 20 11 = udE B J to ∧ udE B J to < B 35 6 := by
  have jo := h.2.2.1
  unfold JO at jo
  have l := h.2.1
  unfold udE
  rw [hc]
  by_cases c : B 35 35 < to
  · have t := (h.2.2.2.2.2 to (by omega) (by omega)).1
    rw [if_neg (by omega), if_pos c, show dL D + (to - dL D) = to by omega, t.2.2.1, t.2.2.2.1]
    unfold wrC
    rw [h.1.1, if_pos (by omega)]
    exact ⟨rfl, Nat.mod_lt _ (by omega)⟩
  · rw [if_pos (by omega), if_neg c]
    exact ⟨h.1.2.2.1, h.2.2.2.1.2.2.2⟩
end NEW
