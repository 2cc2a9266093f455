/-! ===== PURE: the head is set, in both ===== -/
/-- what follows: the journal begins anew -/
def rpT (b0 fu : Nat) (x0 : Nat) (x1 x2 : Int32) (σ : tM) : Option ((Int32 ⊕ Unit) × tM) := ckO b0 (σ) (x0) 1 (cll (m_X1_fold b0 fu (x0) (x2) (σ)) (fun v63 ρ64 => ckO b0 (ρ64) (x0) 1 (cll (m_X1_dropAll b0 fu (x0) (ρ64)) (fun v68 ρ69 => ckO b0 (ρ69) (x0) 1 (cll (m_X1_restart b0 fu (x0) (x2) (ρ69)) (fun v73 ρ74 => some (.inl ((x2) - (x1)), ρ74)))))))
section RPH
variable {Φ : tPh} {b0 fu : Nat} {σ τ : tM} {bi sp : Nat → Nat} {w : Nat → Nat × Nat} {C C' X : tS} {D D' D'' : tD} {A B : tS} {J J' : tJ} {K n m k r b id wh e o un fr to : Nat}
theorem flRS (hΦ : goodT Φ) (hok : ∀ w A, Φ w A → okT A) (hu : 3000 ≤ fu) {k : Unit → tM → Option ((Int32 ⊕ Unit) × tM)} {Q : Int32 ⊕ Unit → tM → Prop} (h : CM b0 σ C D) (hR : RS Φ bi sp C D A J) (hd : dsk A (K + 1)) (hQ : RPk Φ b0 bi sp C D J K (fun ρ => k () ρ) Q (fluX A)) : wp (FC b0) σ (clx (m_X0_flushCache b0 fu (b0 + 1) σ) k) Q := by
  have fl := flushCache_c (fu := fu) (K := K) h hR.1.1 hd hR.2.2.2 hu
  by_cases e : A 35 19 = 1
  · have ex : fluX A = .inr (powA A) := if_pos e
    rw [ex] at fl hQ
    refine wp_clx (FC_good b0) fl (fun v ρ q => by cases q.1) (fun ρ q => ?_)
    obtain ⟨-, C7, D7, t1, t2, t3, t4, t5⟩ := q
    have of := RS_pow hΦ hok hR t2 t3 t4
    generalize powA A = P at of hQ
    exact hQ ρ C7 D7 t1 of t5
  · have ex : fluX A = .inl (fluA A) := if_neg e
    rw [ex] at fl hQ
    refine wp_clx (FC_good b0) fl (fun v ρ q => ?_) (fun ρ q => by cases q.1)
    obtain ⟨-, C7, D7, t1, t2, t3, t4, t5⟩ := q
    exact hQ ρ C7 D7 t1 (RS_flu hΦ hok hR hd.2.2.1 t2 t3 t4) (dsk_flu hd) t3 t4 t5
theorem puRS (hΦ : goodT Φ) (hok : ∀ w A, Φ w A → okT A) (hu : 3000 ≤ fu) {k : Unit → tM → Option ((Int32 ⊕ Unit) × tM)} {Q : Int32 ⊕ Unit → tM → Prop} (h : CM b0 σ C D) (hR : RS Φ bi sp C D A J) (hd : dsk A (K + 1)) (h1 : A 35 35 ≤ to) (h2 : to ≤ A 35 28) (hQ : RPk Φ b0 bi sp C D J K (fun ρ => k () ρ) Q (verX A 0 1 to)) : wp (FC b0) σ (clx (m_X0_put b0 fu (b0 + 1) 0 (nI to) σ) k) Q := by
  have jo := hR.1.2.1.2.2.1
  unfold JO at jo
  have pu := put_c (fu := fu) (K := K) (b := 0) (wh := 1) (id := to) h hR.1.1 hd hR.2.2.2 (by omega) (by show to < 2147483648; omega) hu
  have tg : nI (tgA bi sp 1 to) = nI to := rfl
  have z0 : nI 0 = (0 : Int32) := rfl
  rw [tg, z0] at pu
  by_cases e : A 35 19 = 1
  · have ex : verX A 0 1 to = .inr (powA A) := if_pos e
    rw [ex] at pu hQ
    refine wp_clx (FC_good b0) pu (fun v ρ q => by cases q.1) (fun ρ q => ?_)
    obtain ⟨-, C7, D7, t1, t2, t3, t4, t5⟩ := q
    have of := RS_pow hΦ hok hR t2 t3 t4
    generalize powA A = P at of hQ
    exact hQ ρ C7 D7 t1 of t5
  · have ex : verX A 0 1 to = .inl (verA A 0 1 to) := if_neg e
    rw [ex] at pu hQ
    refine wp_clx (FC_good b0) pu (fun v ρ q => ?_) (fun ρ q => by cases q.1)
    obtain ⟨-, C7, D7, t1, t2, t3, t4, t5⟩ := q
    have t2 : DR bi sp C7 D7 (verA A 0 1 to) := t2
    exact hQ ρ C7 D7 t1 (RS_ver hΦ hok hR hd t2 t3 t4 (Or.inl (by omega)) (fun _ => ⟨rfl, h1, h2⟩) (Or.inl ⟨rfl, Nat.le_refl _⟩) (fun e => by cases e) (fun e => by cases e)) (dsk_ver (K := K) hd (by omega) (fun e => by cases e)) t3 t4 t5
/-- flush, head, flush -/
theorem rpE_c (hΦ : goodT Φ) (hok : ∀ w A, Φ w A → okT A) (hu : 3000 ≤ fu) {x1 : Int32} {Q : Int32 ⊕ Unit → tM → Prop} (h : CM b0 σ C D) (hR : RS Φ bi sp C D A J) (hd : dsk A (K + 3)) (h1 : A 35 35 ≤ to) (h2 : to ≤ A 35 28) (hQ : RPk Φ b0 bi sp C D J K (rpT b0 fu (b0 + 20) x1 (nI to)) Q (rv3 A to)) : wp (FC b0) σ (rpE b0 fu (b0 + 20) x1 (nI to) σ) Q := by
  have h5 := hd.2.2.1
  unfold rpE
  unfold rv3 at hQ
  rw [osm_p (rfC_20_0 h.lay), ckC_1 h.lay]
  refine flRS (K := K + 2) hΦ hok hu h hR hd ?_
  have eA : ∀ B, fluX A = .inl B → B 35 35 = A 35 35 ∧ B 35 28 = A 35 28 := fun B q => by
    by_cases e : A 35 19 = 1
    · have ex : fluX A = .inr (powA A) := if_pos e
      rw [ex] at q
      cases q
    · have ex : fluX A = .inl (fluA A) := if_neg e
      rw [ex] at q
      cases q
      exact ⟨(dk_flu h5).2 35 (by decide) (by decide) (by decide) (by decide) (by decide) (by decide), (dk_flu h5).2 28 (by decide) (by decide) (by decide) (by decide) (by decide) (by decide)⟩
  generalize fluX A = Y at hQ eA
  cases Y with
  | inr P => exact fun ρ C' D' q1 q2 q3 => hQ ρ C' D' q1 q2 q3
  | inl B =>
    obtain ⟨e35, e28⟩ := eA B rfl
    intro ρ C' D' q1 q2 q3 q4 q5 q6
    have hQ : RPk Φ b0 bi sp C D J K (rpT b0 fu (b0 + 20) x1 (nI to)) Q (bX (verX B 0 1 to) (fun C => fluX C)) := hQ
    show wp (FC b0) ρ (ckO b0 ρ (b0 + 20) 1 _) Q
    rw [ckC_20 q1.lay, osm_p (rfC_20_0 q1.lay), ckC_1 q1.lay]
    refine puRS (K := K + 1) hΦ hok hu q1 q2 q3 (by rw [e35]; exact h1) (by rw [e28]; exact h2) ?_
    generalize verX B 0 1 to = Z at hQ
    cases Z with
    | inr P => exact fun ρ2 C2 D2 p1 p2 p3 => hQ ρ2 C2 D2 p1 p2 (EP_z q6 p3)
    | inl B2 =>
      intro ρ2 C2 D2 p1 p2 p3 p4 p5 p6
      have hQ : RPk Φ b0 bi sp C D J K (rpT b0 fu (b0 + 20) x1 (nI to)) Q (fluX B2) := hQ
      show wp (FC b0) ρ2 (ckO b0 ρ2 (b0 + 20) 1 _) Q
      rw [ckC_20 p1.lay, osm_p (rfC_20_0 p1.lay), ckC_1 p1.lay]
      exact flRS (K := K) hΦ hok hu p1 p2 p3 (RPk_t (cO_t q4 p4) (JP_t q5 p5) (EP_z q6 p6) hQ)
end RPH
