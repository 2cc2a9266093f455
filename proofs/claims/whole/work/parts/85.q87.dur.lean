/-! ===== PURE: what is durable is whole; the head after recovery ===== -/
section DUR
variable {Φ : tPh} {b0 fu : Nat} {σ τ : tM} {bi sp : Nat → Nat} {w : Nat → Nat × Nat} {C C' X : tS} {D D' D'' : tD} {A B : tS} {J J' : tJ} {K n m k r b id wh e o un fr to : Nat}
theorem dur_w (h : CO Φ bi sp C D A J) (hk : k < A 35 29 - A 35 35) : whJ A J k = true := by
  have jo := h.2.1.2.2.1
  unfold JO at jo
  have lg := h.2.2.2.2.1
  unfold whJ
  refine decide_eq_true ⟨by omega, ?_⟩
  exact sr_miss (fun i hi => by
    obtain ⟨l1, l2, -⟩ := lg k i hk hi
    simp [l1, l2])
/-- recovery goes at least as far as what is durable -/
theorem dur_to (h : CO Φ bi sp C D A J) : A 35 29 ≤ A 35 35 + rvT A J (rvF A - A 35 35) := by
  obtain ⟨e1, e2, e3⟩ := hdF_eq h
  have jo := h.2.1.2.2.1
  unfold JO at jo
  unfold rvT
  have le := sr_le (fun k => !whJ A J k) (J.2.1 + 1 - (rvF A - A 35 35)) (rvF A - A 35 35)
  refine Classical.byContradiction (fun c => ?_)
  have hit := sr_is (fun k => !whJ A J k) (J.2.1 + 1 - (rvF A - A 35 35)) (rvF A - A 35 35) (by omega)
  have w := dur_w h (k := sr (fun k => !whJ A J k) (rvF A - A 35 35) (J.2.1 + 1 - (rvF A - A 35 35))) (by omega)
  rw [w] at hit
  cases hit
/-- nothing but the new head is there -/
theorem rv3_hd (hd : dsk A (K + 3)) (h : rv3 A to = .inl B) : AV (fun b w i => b = 0 → w = 1 ∧ i = to) B ∧ (∀ b, NV B b) ∧ (∀ o, o ≠ 35 → (o < 39 ∨ 46 < o) → B o = A o) := by
  have h5 := hd.2.2.1
  have dd := dsk_flu (K := K + 2) hd
  unfold rv3 at h
  by_cases e : A 35 19 = 1
  · have ex : fluX A = .inr (powA A) := if_pos e
    rw [ex] at h
    cases h
  have ex : fluX A = .inl (fluA A) := if_neg e
  rw [ex] at h
  have k1 := (dk_flu h5).1
  have h : bX (verX (fluA A) 0 1 to) (fun C => fluX C) = .inl B := h
  generalize fluA A = A1 at *
  by_cases e : A1 35 19 = 1
  · have ex : verX A1 0 1 to = .inr (powA A1) := if_pos e
    rw [ex] at h
    cases h
  have ex : verX A1 0 1 to = .inl (verA A1 0 1 to) := if_neg e
  rw [ex] at h
  have k2 := (dk_ver (A := A1) (b := 0) (wh := 1) (id := to)).1
  have h : fluX (verA A1 0 1 to) = .inl B := h
  have v5 : verA A1 0 1 to 35 15 < 256 := (dsk_ver (K := K + 1) (b := 0) (wh := 1) (id := to) dd (by omega) (fun e => by cases e)).2.2.1
  have cv : cur (verA A1 0 1 to) 0 = (1, to) := by rw [cur_ver dd, if_pos rfl]
  generalize verA A1 0 1 to = A3 at *
  by_cases e : A3 35 19 = 1
  · have ex : fluX A3 = .inr (powA A3) := if_pos e
    rw [ex] at h
    cases h
  have ex : fluX A3 = .inl (fluA A3) := if_neg e
  rw [ex] at h
  have k3 := (dk_flu v5).1
  have eB : B = fluA A3 := by cases h; rfl
  obtain ⟨i1, i2, i3, i4, i5⟩ := flu_all v5
  rw [eB]
  refine ⟨⟨fun b hb e => ?_, fun j hj => by omega⟩, fun b j hj => by omega, fun o a b => by rw [k3 o a b, k2 o a b, k1 o a b]⟩
  have := i1 b
  rw [e, cv] at this
  rw [e]
  exact ⟨congrArg Prod.fst this, congrArg Prod.snd this⟩
end DUR
