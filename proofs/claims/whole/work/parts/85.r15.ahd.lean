/-! ===== PURE: public methods that post ahead, in both ===== -/
/-- how such a method's own step ends -/
def QA (Φ : tPh) (b0 : Nat) (D : tD) (J : tJ) (K : Nat) (v : Int32 ⊕ Unit) (τ : tM) (X : Int × tS) : Prop := v = .inl (iz X.1) ∧ X.2 35 0 = 0 ∧ ∃ bi sp w C' D', CM b0 τ C' D' ∧ RO Φ bi sp w C' D' X.2 J ∧ EL D D' 0 0 ∧ dsk X.2 K
/-- how the whole ends -/
def AZQ (Φ : tPh) (b0 : Nat) (D : tD) (K e o : Nat) (v : Int32 ⊕ Unit) (τ : tM) (X : Int × tP) : Prop :=
  (v = .inl (iz X.1) ∧ X.2.1 35 0 = 0 ∧ ∃ bi sp w C' D', CM b0 τ C' D' ∧ RO Φ bi sp w C' D' X.2.1 X.2.2 ∧ EL D D' e o ∧ dsk X.2.1 K) ∨
  (v = .inr () ∧ X.2.1 35 0 = 1 ∧ ∃ bi sp C' D', CM b0 τ C' D' ∧ OF Φ bi sp C' D' X.2.1 X.2.2 ∧ EL D D' e o)
section AHE
variable {Φ Ψ : tPh} {b0 fu : Nat} {σ τ : tM} {bi sp : Nat → Nat} {w : Nat → Nat × Nat} {C C' X : tS} {D D' : tD} {A B : tS} {J J' : tJ} {K n m k r t un e o : Nat}
theorem CO_ph (hΦ : ∀ w A, Φ w A → Ψ w A) (h : CO Φ bi sp C D A J) : CO Ψ bi sp C D A J := by
  obtain ⟨r1, r2, r3, r4, r5⟩ := h
  refine ⟨r1, r2, r3, fun n n1 n2 => ?_, r5⟩
  obtain ⟨s, w, k1, k2, k3, k4⟩ := r4 n n1 n2
  exact ⟨s, w, k1, k2, hΦ _ _ k3, k4⟩
theorem RO_ph (hΦ : ∀ w A, Φ w A → Ψ w A) (h : RO Φ bi sp w C D A J) : RO Ψ bi sp w C D A J := ⟨CO_ph hΦ h.1, h.2.1, hΦ _ _ h.2.2.1, h.2.2.2⟩
theorem OF_ph (hΦ : ∀ w A, Φ w A → Ψ w A) (h : OF Φ bi sp C D A J) : OF Ψ bi sp C D A J := ⟨CO_ph hΦ h.1, h.2⟩
/-- what posting ahead leaves -/
theorem cm1_o {size : Nat} {s : tP} (h : cm1X A J size un = .inl s) : (∀ o, o ≠ 35 → ¬ (49 ≤ o ∧ o ≤ 52) → (o < 39 ∨ 46 < o) → s.1 o = A o) ∧ (∀ q, q ≠ 15 → q ≠ 16 → q ≠ 18 → q ≠ 19 → q ≠ 20 → q ≠ 21 → q ≠ 28 → q ≠ 33 → q ≠ 34 → s.1 35 q = A 35 q) ∧ s.1 35 34 = A 35 34 + 1 ∧ (∀ b, b < 6200 → s.1 51 b = 0 ∧ s.1 52 b = 0) := by
  unfold cm1X at h
  generalize hX : lgX size 0 size (up2 A 35 34 (A 35 34 + 1)) = X at h
  cases X with
  | inr B => cases h
  | inl B =>
    have r := lg_rows _ _ _ _ hX
    have e : s = (cmF B size, recJ (up2 A 35 34 (A 35 34 + 1)) J size un) := by cases h; rfl
    obtain ⟨f1, f2, f3, f4, f5, f6, f7⟩ := cmF_f (A := B) (sz := size)
    rw [e]
    refine ⟨fun o a b c => ?_, fun q a1 a2 a3 a4 a5 a6 a7 a8 a9 => ?_, ?_, f4⟩
    · show cmF B size o = A o
      rw [f7 o a (by omega) (by omega) (by omega) (by omega), r.1 o a c, up2_rown a]
    · show cmF B size 35 q = A 35 q
      rw [f1, if_neg a7, if_neg a8, r.2 q a1 a2 a3 a4 a5 a6, up2_j a9]
    · show cmF B size 35 34 = A 35 34 + 1
      rw [f1, if_neg (by decide), if_neg (by decide), r.2 34 (by decide) (by decide) (by decide) (by decide) (by decide) (by decide), up2_s]
theorem gs_0 (h : ∀ b, b < 6200 → A 51 b = 0 ∧ A 52 b = 0) : gsA A = 0 := by
  have t : tcA A = 0 := by
    show cn (tch A) 0 6200 = 0
    exact cn_all0 _ _ (fun x _ hx => by
      unfold tch
      rw [(h x (by omega)).1]
      rfl)
  have r : rcA A = 0 := by
    show cn (rvk A) 0 6200 = 0
    exact cn_all0 _ _ (fun x _ hx => by
      unfold rvk
      rw [(h x (by omega)).2]
      rfl)
  unfold gsA
  rw [t, r]
theorem le_e {x y z : Nat} (h : x = y) (k : y ≤ z) : x ≤ z := by rw [h]; exact k
theorem ua_1 (n18 : ¬ A 35 18 = 0) : uaX A J un = if gsA A ≤ A 35 6 / 2 then .inl (A, J) else cmX A J un := by
  unfold uaX paX
  rw [if_neg n18]
theorem ua_2 : cmX A J un = if gsA A ≤ freA_ A J then cm1X A J (gsA A) un else bP (checkX A J) (fun s => cm1X s.1 s.2 (gsA A) un) := rfl
theorem ua_3 {s : tP} (n18 : ¬ A 35 18 = 0) (q : uaX A J un = .inl s) : (if gsA A ≤ A 35 6 / 2 then .inl (A, J) else if gsA A ≤ freA_ A J then cm1X A J (gsA A) un else bP (checkX A J) (fun s => cm1X s.1 s.2 (gsA A) un)) = (.inl s : tP ⊕ tP) := by
  rw [ua_1 n18, ua_2] at q
  exact q
theorem ua_4 {s : tP} {gz : Nat} (k1 : ∀ y, checkX A J = .inl y → ∀ q, q = 0 ∨ q = 6 ∨ q = 7 ∨ q = 33 ∨ q = 34 ∨ q = 57 → y.1 35 q = A 35 q) (k2 : ∀ y, checkX A J = .inl y → ∀ o, o ≠ 35 → o ≠ 49 → (o < 39 ∨ 46 < o) → y.1 o = A o) (q : (if gz ≤ A 35 6 / 2 then .inl (A, J) else if gz ≤ freA_ A J then cm1X A J gz un else bP (checkX A J) (fun s => cm1X s.1 s.2 gz un)) = (.inl s : tP ⊕ tP)) :
    (∀ o, o ≠ 35 → ¬ (49 ≤ o ∧ o ≤ 52) → (o < 39 ∨ 46 < o) → s.1 o = A o) ∧ (s.1 35 0 = A 35 0 ∧ s.1 35 6 = A 35 6 ∧ s.1 35 7 = A 35 7 ∧ s.1 35 57 = A 35 57) ∧ (A 35 34 ≤ s.1 35 34 ∧ s.1 35 34 ≤ A 35 34 + 1) ∧ ((s = (A, J) ∧ gz ≤ A 35 6 / 2) ∨ ∀ b, b < 6200 → s.1 51 b = 0 ∧ s.1 52 b = 0) := by
  have key : ∀ (Z : tS) (Q : tJ), cm1X Z Q gz un = .inl s → (∀ q, q = 0 ∨ q = 6 ∨ q = 7 ∨ q = 33 ∨ q = 34 ∨ q = 57 → Z 35 q = A 35 q) → (∀ o, o ≠ 35 → o ≠ 49 → (o < 39 ∨ 46 < o) → Z o = A o) → (∀ o, o ≠ 35 → ¬ (49 ≤ o ∧ o ≤ 52) → (o < 39 ∨ 46 < o) → s.1 o = A o) ∧ (s.1 35 0 = A 35 0 ∧ s.1 35 6 = A 35 6 ∧ s.1 35 7 = A 35 7 ∧ s.1 35 57 = A 35 57) ∧ (A 35 34 ≤ s.1 35 34 ∧ s.1 35 34 ≤ A 35 34 + 1) ∧ ∀ b, b < 6200 → s.1 51 b = 0 ∧ s.1 52 b = 0 := fun Z Q q f g => by
    obtain ⟨a1, a2, a3, a4⟩ := cm1_o q
    refine ⟨fun o x1 x2 x3 => by rw [a1 o x1 x2 x3, g o x1 (fun z => x2 (by rw [z]; decide)) x3], ⟨?_, ?_, ?_, ?_⟩, ?_, a4⟩
    · rw [a2 0 (by decide) (by decide) (by decide) (by decide) (by decide) (by decide) (by decide) (by decide) (by decide), f 0 (by omega)]
    · rw [a2 6 (by decide) (by decide) (by decide) (by decide) (by decide) (by decide) (by decide) (by decide) (by decide), f 6 (by omega)]
    · rw [a2 7 (by decide) (by decide) (by decide) (by decide) (by decide) (by decide) (by decide) (by decide) (by decide), f 7 (by omega)]
    · rw [a2 57 (by decide) (by decide) (by decide) (by decide) (by decide) (by decide) (by decide) (by decide) (by decide), f 57 (by omega)]
    · rw [a3, f 34 (by omega)]
      exact ⟨Nat.le_add_right _ _, Nat.le_refl _⟩
  by_cases c : gz ≤ A 35 6 / 2
  · rw [if_pos c] at q
    have es : s = (A, J) := by
      cases q
      rfl
    rw [es]
    exact ⟨fun _ _ _ _ => rfl, ⟨rfl, rfl, rfl, rfl⟩, ⟨Nat.le_refl _, Nat.le_add_right _ _⟩, Or.inl ⟨rfl, c⟩⟩
  · rw [if_neg c] at q
    by_cases c2 : gz ≤ freA_ A J
    · rw [if_pos c2] at q
      obtain ⟨a1, a2, a3, a4⟩ := key A J q (fun _ _ => rfl) (fun _ _ _ _ => rfl)
      exact ⟨a1, a2, a3, Or.inr a4⟩
    · rw [if_neg c2] at q
      generalize checkX A J = Y at q k1 k2
      cases Y with
      | inr y => cases q
      | inl y =>
        obtain ⟨a1, a2, a3, a4⟩ := key y.1 y.2 q (k1 y rfl) (k2 y rfl)
        exact ⟨a1, a2, a3, Or.inr a4⟩
theorem ua_fx (hΦ : goodT Φ) (hok : ∀ w A, Φ w A → okT A) (h : CM b0 σ C D) (hR : RO Φ bi sp w C D A J) (hd : dsk A (K + 2100006)) {s : tP} (q : uaX A J un = .inl s) : (∀ o, o ≠ 35 → ¬ (49 ≤ o ∧ o ≤ 52) → (o < 39 ∨ 46 < o) → s.1 o = A o) ∧ (s.1 35 0 = A 35 0 ∧ s.1 35 6 = A 35 6 ∧ s.1 35 7 = A 35 7 ∧ s.1 35 57 = A 35 57) ∧ (A 35 34 ≤ s.1 35 34 ∧ s.1 35 34 ≤ A 35 34 + 1) ∧ ((s = (A, J) ∧ gsA A ≤ A 35 6 / 2) ∨ ∀ b, b < 6200 → s.1 51 b = 0 ∧ s.1 52 b = 0) :=
  ua_4 (fun y e => (ck_RO (K := K) hΦ hok h hR hd e).2.2.2.2.2) (fun y e => ck_rows (K := K) hΦ hok h hR hd e) (ua_3 (fun z => by rw [hR.2.2.2.2.2.2.1] at z; cases z) q)
theorem ua_g {s : tP} (h : (s = (A, J) ∧ gsA A ≤ A 35 6 / 2) ∨ ∀ b, b < 6200 → s.1 51 b = 0 ∧ s.1 52 b = 0) : gsA s.1 ≤ A 35 6 / 2 := by
  rcases h with ⟨h1, h2⟩ | h
  · have e : s.1 = A := by rw [h1]
    rw [e]
    exact h2
  · exact le_e (gs_0 h) (Nat.zero_le _)
/-- what a method finds behind its posting ahead -/
def AF (A B : tS) : Prop := (∀ o, o ≠ 35 → ¬ (49 ≤ o ∧ o ≤ 52) → (o < 39 ∨ 46 < o) → B o = A o) ∧ (B 35 0 = 0 ∧ B 35 6 = A 35 6 ∧ B 35 7 = A 35 7 ∧ B 35 57 = A 35 57) ∧ (A 35 34 ≤ B 35 34 ∧ B 35 34 ≤ A 35 34 + 1) ∧ gsA B ≤ A 35 6 / 2
theorem EL_z (h : EL D D' (n + 0) (m + 0)) : EL D D' n m := by rwa [Nat.add_zero, Nat.add_zero] at h
theorem l_6 {x y e : Nat} (h : 8 + 36 * x + y ≤ e) : 6 ≤ e := by omega
theorem l_1 {x o : Nat} (h : 4 + 2 * x ≤ o) : 1 ≤ o := by omega
theorem pubA_c (hΦ : goodT Φ) (hok : ∀ w A, Φ w A → okT A) (hm : ∀ w A, Φ w A → Ψ w A) (hu : 5000 ≤ fu) {k : Unit → tM → Option ((Int32 ⊕ Unit) × tM)} {f : tS → Nat → Int × tS} (h : CM b0 σ C D) (hR : ST Φ bi sp w C D A J) (hd : dsk A (K + 2104102)) (hg : A 35 18 = 1 → gsA A ≤ A 35 6 ∧ A 35 34 + 1 < 1000000 ∧ A 35 28 + 1 < 1000) (hun : un < 1000000000) (he : 8 + 36 * tcA A + rcA A ≤ e) (ho : 4 + 2 * tcA A ≤ o)
    (hk : ∀ B J' ρ sp' C' D', AF A B → CM b0 ρ C' D' → RO Φ bi sp' w C' D' B J' → dsk B K → wp (FC b0) ρ (k () ρ) (fun v τ => ∀ s, QA Ψ b0 D' J' K v τ (f B s))) :
    wp (FC b0) σ (grw σ (ckO b0 σ (b0 + 0) 10 (osm (tA σ (b0 + 0) 3) (fun a3 => ckO b0 σ a3 1 (clx (m_X1_postAhead b0 fu a3 σ) k))))) (fun v τ => ∀ s, AZQ Ψ b0 D K e o v τ (pubX A J un s f)) := by
  have L := h.lay
  refine wp_grw (FC_good b0) ?_
  rw [ckC_0 L, osm_p (rfC_0_3 L), ckC_20 L]
  have sc := sC_0 (A := A) (v := 0)
  have tc0 : tcA (up2 A 35 0 0) = tcA A := by
    unfold tcA
    rw [up2_rown (by decide)]
  have rc0 : rcA (up2 A 35 0 0) = rcA A := by
    unfold rcA
    rw [up2_rown (by decide)]
  have gs0 : gsA (up2 A 35 0 0) = gsA A := by
    unfold gsA
    rw [tc0, rc0]
  have hd' := dsk_scr hd sc
  have e6 : up2 A 35 0 0 35 6 = A 35 6 := up2_j (by decide)
  have e34 : up2 A 35 0 0 35 34 = A 35 34 := up2_j (by decide)
  have e28 : up2 A 35 0 0 35 28 = A 35 28 := up2_j (by decide)
  have hp : ∀ s, pubX A J un s f = match uaX (up2 A 35 0 0) J un with | .inl p => ((f p.1 s).1, ((f p.1 s).2, p.2)) | .inr p => (0, (up2 p.1 35 0 1, p.2)) := fun _ => rfl
  rcases hR with q | q
  · have on : A 35 18 = 1 := q.2.2.2.2.2.2.1
    obtain ⟨g1, g2, g3⟩ := hg on
    have q' := RO_scr hΦ hok q sc
    have pa := postAhead_on (fu := fu) (K := K) (un := un) hΦ hok hu h q' hd' (Nat.le_of_eq (Nat.add_assoc K 4096 2100006)) (by rw [gs0, e6]; exact g1) hun (by rw [e34]; exact g2) (by rw [e28]; exact g3)
    rw [tc0, rc0] at pa
    have fx := fun s (z : uaX (up2 A 35 0 0) J un = .inl s) => ua_fx (K := K) hΦ hok h q' (dsk_le hd' (Nat.add_le_add_left (by decide) K)) z
    have z0 : up2 A 35 0 0 35 0 = 0 := up2_s A 35 0 0
    generalize uaX (up2 A 35 0 0) J un = Y at *
    cases Y with
    | inl p =>
      refine wp_clx (FC_good b0) pa (fun v ρ z => ?_) (fun ρ z => by cases z.1)
      obtain ⟨zv, sp', C', D', z1, z2, z3, z4⟩ := z
      obtain ⟨x1, ⟨x2, x3, x4, x5⟩, x6, x7⟩ := fx p rfl
      have gsB : gsA p.1 ≤ A 35 6 / 2 := by
        have := ua_g x7
        rw [e6] at this
        exact this
      have af : AF A p.1 := ⟨fun o a b c => by rw [x1 o a b c, up2_rown a], ⟨by rw [x2, z0], by rw [x3, e6], by rw [x4, up2_j (by decide)], by rw [x5, up2_j (by decide)]⟩, by rw [e34] at x6; exact x6, gsB⟩
      refine wp_mono (hk p.1 p.2 ρ sp' C' D' af z1 z2 z4) (fun v2 τ2 _ y s => ?_)
      obtain ⟨y1, y2, bi2, sp2, w2, C2, D2, y3, y4, y5, y6⟩ := y s
      rw [hp s]
      exact Or.inl ⟨y1, y2, bi2, sp2, w2, C2, D2, y3, y4, EL_le (EL_z (EL_t z3 y5)) he ho, y6⟩
    | inr p =>
      refine wp_clx (FC_good b0) pa (fun v ρ z => by cases z.1) (fun ρ z s => ?_)
      obtain ⟨-, sp', C', D', z1, z2, z3⟩ := z
      rw [hp s]
      exact Or.inr ⟨rfl, up2_s p.1 35 0 1, bi, sp', C', D', z1, OF_ph hm (OF_scr hΦ hok z2 (sC_0 (v := 1))), EL_le z3 (l_6 he) (l_1 ho)⟩
  · have q' := OF_scr hΦ hok q sc
    have ux : uaX (up2 A 35 0 0) J un = .inr (up2 A 35 0 0, J) := by
      unfold uaX
      rw [if_pos q'.2.1]
    have pa := postAhead_off (fu := fu) (K := K) (un := un) (n := 0) (m := 0) (w := w) hΦ hok h q'
    rw [ux] at pa
    refine wp_clx (FC_good b0) pa (fun v ρ z => by cases z.1) (fun ρ z s => ?_)
    obtain ⟨-, sp', C', D', z1, z2, z3⟩ := z
    rw [hp s, ux]
    exact Or.inr ⟨rfl, up2_s (up2 A 35 0 0) 35 0 1, bi, sp', C', D', z1, OF_ph hm (OF_scr hΦ hok z2 (sC_0 (v := 1))), EL_le z3 (l_6 he) (l_1 ho)⟩
end AHE
