/-! ===== PURE: writeDirty, whole ===== -/
section WDU
variable {Φ : tPh} {b0 fu : Nat} {σ τ : tM} {bi sp : Nat → Nat} {w : Nat → Nat × Nat} {C C' X : tS} {D D' D'' : tD} {A B : tS} {J J' : tJ} {K n m k r b id : Nat}
theorem it_f : ∀ m i (A : tS), (∀ o, o ≠ 72 → itN n i m A o = A o) ∧ ∀ r, (itN n i m A 72 r ≠ 0 ↔ A 72 r ≠ 0 ∨ ∃ j, i ≤ j ∧ j < i + m ∧ hasA A n j = r + 1)
  | 0, i, A => ⟨fun _ _ => rfl, fun r => ⟨Or.inl, fun q => by
      rcases q with q | ⟨j, a, b, c⟩
      · exact q
      · omega⟩⟩
  | m + 1, i, A => by
    have ih := it_f m (i + 1) (if hasA A n i = 0 then A else up2 A 72 (hasA A n i - 1) 1)
    have hs : ∀ j, hasA (if hasA A n i = 0 then A else up2 A 72 (hasA A n i - 1) 1) n j = hasA A n j := fun j => by
      split
      · rfl
      · exact has_72
    refine ⟨fun o ho => ?_, fun r => ?_⟩
    · show itN n (i + 1) m (if hasA A n i = 0 then A else up2 A 72 (hasA A n i - 1) 1) o = A o
      rw [ih.1 o ho]
      split
      · rfl
      · exact up2_rown ho
    · show itN n (i + 1) m (if hasA A n i = 0 then A else up2 A 72 (hasA A n i - 1) 1) 72 r ≠ 0 ↔ _
      rw [ih.2 r]
      have e : (if hasA A n i = 0 then A else up2 A 72 (hasA A n i - 1) 1) 72 r ≠ 0 ↔ A 72 r ≠ 0 ∨ hasA A n i = r + 1 := by
        by_cases c : hasA A n i = 0
        · rw [if_pos c]
          exact ⟨Or.inl, fun q => by
            rcases q with q | q
            · exact q
            · omega⟩
        · rw [if_neg c]
          by_cases d : r = hasA A n i - 1
          · rw [d, up2_s]
            exact ⟨fun _ => Or.inr (by omega), fun _ => by omega⟩
          · rw [up2_j d]
            exact ⟨Or.inl, fun q => by
              rcases q with q | q
              · exact q
              · omega⟩
      rw [e]
      constructor
      · rintro ((q | q) | ⟨j, a, b', c⟩)
        · exact Or.inl q
        · exact Or.inr ⟨i, Nat.le_refl _, by omega, q⟩
        · exact Or.inr ⟨j, by omega, by omega, by rw [← hs]; exact c⟩
      · rintro (q | ⟨j, a, b', c⟩)
        · exact Or.inl (Or.inl q)
        · by_cases d : j = i
          · rw [d] at c
            exact Or.inl (Or.inr c)
          · exact Or.inr ⟨j, by omega, by omega, by rw [hs]; exact c⟩
theorem wdI_f {o : Option Nat} : (∀ p, p ≠ 72 → wdI o A p = A p) := by
  intro p hp
  cases o with
  | none => exact fl_row hp _ _ _
  | some n =>
    show itN n 0 ((nd A n 1 + 255) / 256) (fl 72 0 0 (A 35 7) A) p = A p
    rw [(it_f _ _ _).1 p hp, fl_row hp]
theorem has_fl72 {i v a c : Nat} : hasA (fl 72 v a c A) n i = hasA A n i := by
  unfold hasA leafA pt nd
  rw [fl_row (by decide)]
theorem IT_wdI (h : SR bi w C A) {o : Option Nat} (ho : ∀ n, o = some n → n < 64 ∧ nd A n 0 = 1 ∧ ∀ i, i < 1064 → nd A n 1 ≤ 256 * i → hasA A n i = 0) : IT o C (wdI o A) := by
  intro r hr hd
  rw [wdI_f (A := A) (o := o) 35 (by decide)] at hr
  rw [wdI_f (A := A) (o := o) 48 (by decide)] at hd
  have zm := h.zm
  have h2 := zm.1.2.2.2.1
  have hu := zm.2.2.2.2.2.2.2.2.2 r hr hd
  obtain ⟨z13, z14, z49⟩ := zm.2.2.1 r hr hu
  obtain ⟨g1, g2⟩ := h.gh.2.2.2.2 r hr hd
  have t := h.ti.1 r (by omega) hu
  cases o with
  | none =>
    refine ⟨fun _ n e => (by cases e), fun _ => ?_⟩
    show fl 72 1 0 (A 35 7) A 72 r ≠ 0
    rw [fl_at, if_pos ⟨rfl, Nat.zero_le _, by omega⟩]
    decide
  | some n =>
    obtain ⟨n1, n2, n3⟩ := ho n rfl
    have b1 := (nd_k h.ok n1).2.1
    show itN n 0 ((nd A n 1 + 255) / 256) (fl 72 0 0 (A 35 7) A) 72 r ≠ 0 ↔ _
    rw [(it_f _ _ _).2 r, fl_at, if_pos ⟨rfl, Nat.zero_le _, by omega⟩, z14]
    have s64 : (w r).2 < 1064 := by
      have := t.2.2.2.1
      unfold vs at this
      omega
    constructor
    · rintro (q | ⟨j, a, b', c⟩)
      · exact absurd rfl q
      · intro n' e
        cases e
        rw [has_fl72] at c
        have := (h.ti.2.1 n j r n1 (Or.inl (by omega)) (by rw [hs_slo (by omega)]; exact c)).2.2
        rw [this]
    · intro q
      have e := q n rfl
      refine Or.inr ⟨(w r).2, Nat.zero_le _, ?_, ?_⟩
      · have hh : hasA A n (w r).2 = r + 1 := by
          have := t.2.2.2.2
          rw [hs_slo s64, e] at this
          exact this
        refine Classical.byContradiction (fun c => ?_)
        have := n3 (w r).2 s64 (by omega)
        omega
      · rw [has_fl72]
        have := t.2.2.2.2
        rw [hs_slo s64, e] at this
        exact this
/-- writeDirty -/
theorem writeDirty_c (hΦ : goodT Φ) (hok : ∀ w A, Φ w A → okT A) (hu : 3000 ≤ fu) {o : Option Nat} {most : Nat} (hm : most < 2147483648) (h : CM b0 σ C D) (hR : RO Φ bi sp w C D A J) (hd : dsk A (K + 2000)) (ho : ∀ n, o = some n → n < 64 ∧ nd A n 0 = 1 ∧ ∀ i, i < 1064 → nd A n 1 ≤ 256 * i → hasA A n i = 0) :
    wp (FC b0) σ (m_X10_writeDirty b0 fu (b0 + 0) (oI o) (nI most) σ) (fun v τ => WZ Φ b0 bi sp w D J K v τ (wdX o most A)) := by
  have f := wdI_f (A := A) (o := o)
  have s : sC A (wdI o A) := ⟨fun p hp => f p (by omega), fun q _ _ _ => by rw [f 35 (by decide)]⟩
  have jo := hR.1.2.1.2.2.1
  unfold JO at jo
  have e7 : wdI o A 35 7 = A 35 7 := by rw [f 35 (by decide)]
  refine wp_grw (FC_good b0) ?_
  have := wd6 (fu := fu) (K := K) hΦ hok hu (o := o) (fun n e => (ho n e).1) hm (A 35 7) 0 0 fu σ C D (wdI o A) h (RO_scr hΦ hok hR s) (dsk_le (dsk_scr hd s) (by omega)) (IT_wdI hR.2.1 ho) (by rw [e7]; omega) (Nat.le_refl _) (by omega)
  exact this
end WDU
