/-! ===== PURE: the relation behind replay, in both ===== -/
section NEY
variable {Φ : tPh} {b0 fu : Nat} {σ τ : tM} {bi sp : Nat → Nat} {w : Nat → Nat × Nat} {C C' C1 X : tS} {D D' D1 D2 : tD} {A B : tS} {J J' : tJ} {K n m k r b id wh e o un fr to en : Nat} {s : Nat → Nat}
theorem CO_new (hΦ : goodT Φ) (h : RS Φ bi sp C D B J) (hv : AV (fun b w i => b = 0 → w = 1 ∧ i = to) B) (h1 : B 35 29 ≤ to) (h2 : to ≤ B 35 28) (hF : FDs (to - dL D) C D C1 D1) (hS : sS D1 D2) :
    ∃ s w, J.2.2.2 (udC B J to) s ∧ CO Φ bi sp (rsC C1 to) (noT D2 to) (ud0 B to (udE B J to) s) (udJ J s) ∧ MR bi w (mW (noT D2 to) 0) (ud0 B to (udE B J to) s) ∧ Φ w (ud0 B to (udE B J to) s) ∧ (∀ r, r < 2000 → us (ud0 B to (udE B J to) s) r → bi (se (ud0 B to (udE B J to) s) r) ≠ 0) := by
  obtain ⟨⟨r1, r2, r3, r4, r5, r6, r7, r8, r9, r10⟩, hon, hun, h46⟩ := h
  have jo := r2.2.2.1
  unfold JO at jo
  have jl := r2.2.1
  have sT : sTz D (dL D) (to - dL D) ≤ C 20 9 := by
    have := sT_eq r2 (to - dL D) 0 (by omega)
    rw [Nat.add_zero] at this
    rw [this, r2.2.2.2.2.1]
    exact szL_mono J.1 (by omega)
  obtain ⟨⟨f1, f2, f3, f4, f5, f6, f7, f8, f9⟩, c1, c2, c3, c4, c5⟩ := fd_fx _ _ _ _ _ hF sT
  obtain ⟨e1, e2⟩ := ud_en (C' := C1) r2 (by omega) h2 c4
  obtain ⟨s, w, k1, k2, k3, k4⟩ := r4 to h1 h2
  refine ⟨s, w, k1, ?_⟩
  obtain ⟨u1, u2, u3, ⟨u28, u29, u30, u31, u32, u35⟩, u33, u46⟩ := ud0_f (B := B) (to := to) (en := udE B J to) (s := s)
  generalize udE B J to = en at *
  generalize ud0 B to en s = U at *
  obtain ⟨q1, q2, q3, q4⟩ := rsC_f (C := C1) (to := to)
  have U36 : U 36 = upR B 36 s 36 := by rw [u2, upR_ss]
  have us_e : ∀ r, us U r ↔ us (upR B 36 s) r := fun r => by unfold us; rw [U36]
  have se_e : ∀ r, se U r = se (upR B 36 s) r := fun r => by unfold se; rw [U36]
  have mwe : ∀ q, mW (noT D2 to) 0 q = mW D (to - B 35 35) q := fun q => by
    rw [mW_noT hS, c5, Nat.zero_add, jl.1]
  have mwf : mW (noT D2 to) 0 = mW D (to - B 35 35) := funext mwe
  have MRU : MR bi w (mW (noT D2 to) 0) U := by
    rw [mwf]
    unfold MR NW BW EW us nd pt eZ pv se at k2 ⊢
    rw [U36]
    exact k2
  have B7 : upR B 36 s 35 7 = B 35 7 := by rw [upR_nn (by decide)]
  have PU : Φ w U := hΦ w (upR B 36 s) U U36 (by rw [B7, u3 7 (by omega)]) k3
  have bn : ∀ r, r < 2000 → us U r → bi (se U r) ≠ 0 := fun r hr hu => by
    rw [se_e]
    exact k4 r hr ((us_e r).mp hu)
  have sd : sD B U := ⟨u1 39 (by decide) (by decide), u1 40 (by decide) (by decide), u1 42 (by decide) (by decide), u1 43 (by decide) (by decide), u1 44 (by decide) (by decide), u3 15 (by omega), u3 16 (by omega)⟩
  have cp : ∀ p, p ≠ 10 → p ≠ 15 → p ≠ 16 → p ≠ 19 → p ≠ 20 → rsC C1 to p = C p := fun p a b c d e => by rw [q1 p a b c d e, c1 p e]
  have ten : ∀ q, q ≠ 11 → q ≠ 12 → q ≠ 16 → rsC C1 to 10 q = C 10 q := fun q a b c => by rw [q3, if_neg (by omega), if_neg c, c1 10 (by decide)]
  refine ⟨⟨?_, ⟨?_, ⟨?_, ?_⟩, ?_, ?_, ?_, fun n n1 n2 => ?_⟩, ?_, ?_, fun k i hk _ => ?_, ?_, ?_, ?_, ?_, ?_⟩, MRU, PU, bn⟩
  · refine DR_all r1 (fun p hp => cp p (by omega) (by omega) (by omega) (by omega) (by omega)) ?_ ?_ (fun o j a _ _ _ => ?_) (fun o a b => u1 o (by omega) (by omega)) (fun q hq => u3 q (by omega))
    · show dP D2 3 = dP D 3
      rw [hS.2, f6]
    · show dP D2 8 = dP D 8
      rw [hS.2, f7]
    · show dW D2 a = dW D a
      rw [hS.1.1, f5]
  · unfold JF
    rw [u3 6 (by omega), u33, u46, u28, u29, u30, u31, u32]
    refine ⟨?_, ?_, ?_, ?_, ?_, ?_, ?_, ?_⟩
    · rw [q2, if_neg (by decide), if_neg (by decide), if_neg (by decide), c2 8 (by decide) (by decide)]
      exact r2.1.1
    · rw [q2, if_pos rfl]
      exact e1
    · rw [q2, if_neg (by decide), if_neg (by decide), if_neg (by decide)]
      exact e1
    · rw [q2, if_neg (by decide), if_neg (by decide), if_pos (by decide)]
    · rw [q2, if_neg (by decide), if_neg (by decide), if_pos (by decide)]
    · rw [q2, if_neg (by decide), if_neg (by decide), if_pos (by decide)]
    · rw [q2, if_neg (by decide), if_neg (by decide), if_pos (by decide)]
    · rw [q2, if_neg (by decide), if_neg (by decide), if_pos (by decide)]
  · show to = U 35 35
    rw [u35]
  · show to = U 35 28
    rw [u28]
  · unfold JO
    rw [u32, u35, u31, u30, u29, u28, u3 6 (by omega), u3 7 (by omega)]
    show _ ∧ _ ∧ _ ∧ _ ∧ _ ∧ _ ∧ to - to ≤ 0 ∧ _
    omega
  · unfold JG
    rw [u28, u35, u33, u46, u3 6 (by omega), Nat.sub_self]
    refine ⟨fun k hk => by omega, ?_, Nat.zero_le _, e2⟩
    show en = (en + 0) % B 35 6
    rw [Nat.add_zero, Nat.mod_eq_of_lt e2]
  · rw [q2, if_neg (by decide), if_pos rfl, u28, u35, Nat.sub_self]
    rfl
  · have a1 : to < n := n1
    have a2 : n ≤ to := n2
    omega
  · refine ⟨fun i j _ hj => ?_, fun i hi => ?_, fun q hq => ?_, fun i hi => ?_, r3.2.2.2.2⟩
    · have : j < 0 := hj
      omega
    · have : i < 0 := hi
      omega
    · have : q < 0 := hq
      omega
    · have : i < 0 := hi
      omega
  · intro n n1 n2
    rw [u29] at n1
    rw [u28] at n2
    have en' : n = to := by omega
    have UU : upR U 36 s = U := by
      funext p
      by_cases c : p = 36
      · rw [c, upR_ss, u2]
      · rw [upR_nn c]
    refine ⟨s, w, ?_, ?_, ?_, ?_⟩
    · have : udC U (udJ J s) n = 0 := by
        unfold udC
        rw [u35, if_neg (by omega)]
      rw [this]
      exact ⟨rfl, rfl⟩
    · rw [UU, u35, en', Nat.sub_self]
      exact MRU
    · rw [UU]
      exact PU
    · rw [UU]
      exact bn
  · rw [u29, u35] at hk
    omega
  · have := AV_sD sd hv
    unfold HDd
    rw [u35, u28]
    exact AV_mono this (fun b w i z e => Or.inl ⟨(z e).1, by rw [(z e).2]; exact Nat.le_refl _, by rw [(z e).2]; exact Nat.le_refl _⟩)
  · have := AV_sD sd r7
    unfold RG
    rw [u3 6 (by omega), u3 7 (by omega), u3 34 (by omega)]
    exact this
  · unfold SPJ at r8 ⊢
    rw [q2, if_neg (by decide), if_neg (by decide), if_neg (by decide), c2 17 (by decide) (by decide), u3 34 (by omega)]
    exact r8
  · obtain ⟨m1, m2, m3, m4⟩ := r9
    unfold MI
    rw [ten 7 (by decide) (by decide) (by decide), ten 8 (by decide) (by decide) (by decide), ten 15 (by decide) (by decide) (by decide), cp 11 (by decide) (by decide) (by decide) (by decide) (by decide), u3 6 (by omega), u3 7 (by omega), u3 34 (by omega)]
    exact ⟨ci_rs (ci_cong m1 (fun q _ => by rw [c1 10 (by decide)]) (c1 15 (by decide)) (c1 16 (by decide)) (c1 17 (by decide))), m2, m3, m4⟩
  · exact TP_all r10 (fun p hp => cp p (by omega) (by omega) (by omega) (by omega) (by omega)) (fun o ho => u1 o (by omega) (by omega)) (u3 57 (by omega))
end NEY
