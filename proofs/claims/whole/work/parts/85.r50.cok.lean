/-! ===== PURE: what the reference asks for: commit; its journal does not grow but there ===== -/
/-- no more in the lists, no other trees -/
def JM (J J' : tJ) : Prop := J'.2.2.1 ≤ J.2.2.1 ∧ ∀ p s, J'.2.2.2 p s → ∃ q, J.2.2.2 q s
def oA (X : tP ⊕ tP) : tP := match X with | .inl s => s | .inr s => s
section COK
variable {Φ : tPh} {b0 : Nat} {σ : tM} {bi sp : Nat → Nat} {w : Nat → Nat × Nat} {C : tS} {D : tD} {A B : tS} {J J' J2 : tJ} {K t un n m : Nat}
theorem JM_r : JM J J := ⟨Nat.le_refl _, fun p s h => ⟨p, h⟩⟩
theorem JM_t (h : JM J J') (g : JM J' J2) : JM J J2 := ⟨Nat.le_trans g.1 h.1, fun p s y => by
  obtain ⟨q, hq⟩ := g.2 p s y
  exact h.2 q s hq⟩
theorem JM_fg : JM J (fgJ A J) := by
  have f1 : ∀ fr, JM J (fg1 J fr) := fun fr => ⟨Nat.le_refl _, fun p s h => by
    obtain ⟨q, -, hq⟩ := h
    exact ⟨q, hq⟩⟩
  unfold fgJ
  split
  · exact JM_t (f1 _) ⟨Nat.sub_le _ _, fun p s h => ⟨p, h⟩⟩
  · exact f1 _
theorem JM_fl : JM J (oA (flushX A J)).2 := by
  unfold flushX
  cases fluX A with
  | inr B => exact JM_r
  | inl B =>
    show JM J (oA (fl2_ (fgA (fl1 B) J) (fgJ (fl1 B) J))).2
    unfold fl2_
    split
    · exact JM_fg
    · cases verX (up2 (fgA (fl1 B) J) 35 31 (fgA (fl1 B) J 35 30)) 0 1 (fgA (fl1 B) J 35 30) with
      | inl Y => exact JM_fg
      | inr Y => exact JM_fg
theorem oA_bP {X : tP ⊕ tP} {f : tP → tP ⊕ tP} (hX : JM J (oA X).2) (hf : ∀ s, X = .inl s → JM s.2 (oA (f s)).2) : JM J (oA (bP X f)).2 := by
  cases X with
  | inl s => exact JM_t hX (hf s rfl)
  | inr s => exact hX
theorem JM_ck : JM J (oA (checkX A J)).2 := by
  unfold checkX
  refine oA_bP JM_fl (fun s _ => ?_)
  unfold ck2X
  refine oA_bP ?_ (fun s2 _ => oA_bP JM_fl (fun s3 _ => JM_fl))
  cases apN s.2 (s.1 35 29 - s.1 35 30) s.1 with
  | inl Y => exact JM_r
  | inr Y => exact JM_r
theorem cm_ok (hΦ : goodT Φ) (hok : ∀ w A, Φ w A → okT A) (h : CM b0 σ C D) (hR : RO Φ bi sp w C D A J) (hd : dsk A (K + 8710000)) (hn : A 35 28 < 64) (hg : gsA A ≤ A 35 6) (h34 : A 35 34 + 1 < 1000000) (hl : J.2.2.1 + 12300 < 262144) : cmOk A J := by
  have jo := hR.1.2.1.2.2.1
  have jg := hR.1.2.1.2.2.2.1
  unfold JO at jo
  have nr := hR.2.2.2.2.2.2.2.1
  have g4 : gsA A ≤ 4096 := Nat.le_trans hg (by omega)
  generalize hgs : gsA A = gz at *
  refine ⟨by omega, by omega, by omega, ?_, by omega, by omega, by omega, fun _ => ?_, fun _ => ⟨ck_ok (K := K) hΦ hok h hR (dsk_le hd (by omega)) hn, fun s e => ?_⟩⟩
  · rw [jo.1, Nat.sub_self]
    exact jg.2.2.1
  · exact cm1_ok (K := K) hR (dsk_le hd (by omega)) hn hl h34 (by omega)
  · obtain ⟨d1, k28, k29, k35, k32, kq⟩ := ck_RO (K := K + 5000) hΦ hok h hR (dsk_le hd (by omega)) e
    obtain ⟨v, τ, -, -, q⟩ := checkpoint_c (fu := 3000) (K := K) hΦ hok (by omega) h hR (dsk_le hd (by omega))
    rw [e] at q
    obtain ⟨-, C', D', q1, q2, -⟩ := q
    have jm := (JM_ck (A := A) (J := J)).1
    rw [e] at jm
    have jm : s.2.2.2.1 ≤ J.2.2.1 := jm
    exact cm1_ok (K := K) q2 (dsk_le d1 (by omega)) (by omega) (by omega) (by rw [kq 34 (by omega)]; exact h34) (by omega)
theorem ua_ok (hΦ : goodT Φ) (hok : ∀ w A, Φ w A → okT A) (h : CM b0 σ C D) (hR : ST Φ bi sp w C D A J) (hd : dsk A (K + 8710000)) (hn : A 35 28 < 64) (hg : A 35 18 = 1 → gsA A ≤ A 35 6) (h34 : A 35 34 + 1 < 1000000) (hl : J.2.2.1 + 12300 < 262144) : uaOk (up2 A 35 0 0) J := by
  intro h18 _
  have e18 : up2 A 35 0 0 35 18 = A 35 18 := up2_j (by decide)
  rcases hR with q | q
  · have on : A 35 18 = 1 := q.2.2.2.2.2.2.1
    have sc := sC_0 (A := A) (v := 0)
    have gs0 : gsA (up2 A 35 0 0) = gsA A := by
      unfold gsA tcA rcA
      rw [up2_rown (by decide), up2_rown (by decide)]
    refine cm_ok (K := K) hΦ hok h (RO_scr hΦ hok q sc) (dsk_scr hd sc) (by rw [up2_j (by decide)]; exact hn) ?_ (by rw [up2_j (by decide)]; exact h34) hl
    rw [gs0, up2_j (by decide)]
    exact hg on
  · rw [e18, q.2.1] at h18
    exact absurd rfl h18
end COK
