/-! ===== PURE: the reference's public methods: link, open, close ===== -/
def wtA (A : tS) (w : Nat) (fo : Bool) : Int := wkA A fo (cps [] (seg (A (62 + w)) 0 (A 64 w)))
def lnG (x : Nat) (A : tS) (d : Nat) : Int × tS :=
  if kf A d < eAll A d then (-2, A) else if 28 < A 35 53 then (-7, A) else if nd A x 2 = 200 then (-10, A) else if lkA A d then (-6, A)
  else ((nd (addA A d (A 67) (A 35 53) x) x 2 + 1 : Nat), setN (addA A d (A 67) (A 35 53) x) x 2 (nd (addA A d (A 67) (A 35 53) x) x 2 + 1))
def lnY (A : tS) (s : Nat) : Int × tS :=
  if wtA A 1 false < 0 then (wtA A 1 false, up2 A 35 51 s) else if nd A (wtA A 1 false).toNat 0 = 2 then (-4, up2 A 35 51 s)
  else if waA A 0 < 0 then (waA A 0, wa1 A 0 s) else lnG (wtA A 1 false).toNat (wa1 A 0 s) (waA A 0).toNat
def lnOk (A : tS) : Prop := ∀ s (x d : Nat), wtA A 1 false = (x : Int) → waA A 0 = (d : Int) → nd A x 0 ≠ 2 → lsN A 0 ≤ 28 → nd A x 2 ≠ 200 → lkA (wa1 A 0 s) d = false → aeOk (wa1 A 0 s) d ∧ nd (addA (wa1 A 0 s) d (wa1 A 0 s 67) (wa1 A 0 s 35 53) x) x 2 < 255
def pubU (A : tS) (s : Nat) (f : tS → Nat → Int × tS) : Int × tS := if A 35 18 = 0 then (0, up2 (up2 A 35 0 0) 35 0 1) else f (up2 A 35 0 0) s
def PU (b0 N' : Nat) (A : tS) (J : tJ) (f : tS → Nat → Int × tS) (v : Int32) (τ : tM) : Prop := ∃ s, v = iz (pubU A s f).1 ∧ RM b0 J τ (pubU A s f).2 N'
def ohA (A : tS) : Nat := sr (fun h => A 71 h == 0) 0 16
def opY (A : tS) (s : Nat) : Int × tS :=
  if wtA A 0 true < 0 then (wtA A 0 true, up2 A 35 51 s) else if nd A (wtA A 0 true).toNat 0 = 2 then (-4, up2 A 35 51 s)
  else if ohA A = 16 then (-10, up2 A 35 51 s) else ((ohA A : Int), up2 (up2 A 35 51 s) 71 (ohA A) ((wtA A 0 true).toNat + 1))
def clY (x : Int32) (A : tS) (_ : Nat) : Int × tS := match hdA A x with
  | none => (-9, A)
  | some n => (0, mfA (up2 A 71 x.toNatClampNeg 0) n)
/-- what maybeFree asks for -/
def mfOk (A : tS) (n : Nat) : Prop := nd A n 2 = 0 → opA A n = false → nd A n 0 = 1 → 0 < nd A n 1 → ddOk n 0 ((nd A n 1 - 1) / 256 + 1) (zb (up2 (setN A n 1 0) 50 n 1) n 0)
section OP
variable {b0 fu : Nat} {σ τ : tM} {A B U : tS} {N N' K K' : Nat} {J : tJ}
theorem pubU_wp {k : tM → Option (Int32 × tM)} {f : tS → Nat → Int × tS} (h : RM b0 J σ A N) (hN : N ≤ N')
    (hk : ∀ ρ, A 35 18 ≠ 0 → RM b0 J ρ (up2 A 35 0 0) N → wp (FR b0) ρ (k ρ) (fun v τ => ∃ s, v = iz (f (up2 A 35 0 0) s).1 ∧ RM b0 J τ (f (up2 A 35 0 0) s).2 N')) :
    wp (FR b0) σ (ckO b0 σ (b0 + 35) 11 (cly (m_X12_up b0 fu (b0 + 35) (sI σ (b0 + 35) 0 0)) (fun _ ρ4 => ckO b0 ρ4 (b0 + 35) 11 (k ρ4)) (fun ρ12 => ckO b0 ρ12 (b0 + 35) 11 (cll (m_X12_off b0 fu (b0 + 35) ρ12) (fun v15 ρ16 => some (v15, ρ16)))))) (PU b0 N' A J f) := by
  have L := h.ra.lay
  rw [ckR_35 L]
  have h1 : RM b0 J (sI σ (b0 + 35) 0 0) (up2 A 35 0 0) N := RM_fix (x := 0) h rfl (by decide) rfl (by decide)
  have hup := up_wp (fu := fu) h1
  rw [up2_j (show (18 : Nat) ≠ 0 by decide)] at hup
  unfold PU pubU
  by_cases e : A 35 18 = 0
  · simp only [if_pos e] at hup ⊢
    refine wp_from (FR_good b0) (FR_sI (refO_f 35 (by omega) (by omega))) (wp_cly (FR_good b0) hup ?_ ?_)
    · intro v ρ q
      exact absurd q.1 (fun e => by cases e)
    · intro ρ q
      rw [ckR_35 q.2.ra.lay]
      refine wp_bind (FR_good b0) (off_wp (fu := fu) q.2) ?_
      intro v ρ2 ⟨e1, q3⟩
      exact wp_ret ((FR_good b0).1 _) ⟨0, e1, RM_le q3 hN⟩
  · simp only [if_neg e] at hup ⊢
    refine wp_from (FR_good b0) (FR_sI (refO_f 35 (by omega) (by omega))) (wp_cly (FR_good b0) hup ?_ ?_)
    · intro v ρ q
      rw [ckR_35 q.2.ra.lay]
      exact hk ρ e q.2
    · intro ρ q
      exact absurd q.1 (fun e => by cases e)
theorem wt_bd (hT : okT A) {w : Nat} {fo : Bool} : -10 ≤ wtA A w fo ∧ wtA A w fo < 64 := wk_bd hT fo 1000 0 0 _ (by omega)
theorem op37 (h : RM b0 J σ A N) {x : Nat} (hx : x < 64) : ∀ m k f, k + m = 16 → m < f → wp (FR b0) σ (L_X12_open_37 b0 fu f (b0 + 35) (nI x) (nI k) σ) (fun v τ => ∃ q, q = sr (fun h => A 71 h == 0) k m ∧ v = iz (if q = 16 then -10 else (q : Int)) ∧ RM b0 J τ (if q = 16 then A else up2 A 71 q (x + 1)) N) := by
  have L := h.ra.lay
  intro m
  induction m with
  | zero =>
    intro k f hk hf
    obtain ⟨f, rfl⟩ : ∃ q, f = q + 1 := ⟨f - 1, by omega⟩
    have : k = 16 := by omega
    subst this
    unfold L_X12_open_37
    rw [ltb_def, if_pos (show (16 : Int32) ≤ nI 16 by decide)]
    exact wp_ret ((FR_good b0).1 _) ⟨16, rfl, rfl, h⟩
  | succ m ih =>
    intro k f hk hf
    obtain ⟨f, rfl⟩ : ∃ q, f = q + 1 := ⟨f - 1, by omega⟩
    have b71 := bd_71 h.ra k
    unfold L_X12_open_37
    rw [ltb_def, show (16 : Int32) = nI 16 from rfl, if_l (by omega) (by omega), if_neg (show ¬ 16 ≤ k by omega), ckR_35 L, osm_p (rfR_35_58 L), ckR_71 L, ckI_n (by omega) (by omega), nI_cl (by omega), rd_71 h.ra, osm_p (rfR_35_58 L), ckR_71 L, ckI_n (by omega) (by omega)]
    rw [show sr (fun h => A 71 h == 0) k (m + 1) = if (A 71 k == 0) = true then k else sr (fun h => A 71 h == 0) (k + 1) m from rfl]
    by_cases e : A 71 k = 0
    · rw [if_pos (show (A 71 k == 0) = true by simp [e]), e, if_pos (show nI 0 - 1 < 0 by decide)]
      refine wp_ret (FR_sI (refO_f 71 (by omega) (by omega))) ⟨k, rfl, ?_, ?_⟩
      · rw [if_neg (by omega), iz_n]
      · rw [if_neg (by omega)]
        exact RM_fix (o := 71) (j := k) (x := x + 1) h rfl (by decide) (by show nI x = nI (x + 1) - 1; rw [show nI (x + 1) - 1 = nI (x + 1 - 1) from nI_sb (a := x + 1) (b := 1) (by omega)]; rfl) (by show x + 1 < 2147483648; omega)
    · rw [if_neg (show ¬ (A 71 k == 0) = true by simp [e]), show nI (A 71 k) - 1 = nI (A 71 k - 1) from nI_sb (b := 1) (by omega), if_neg (nI_pos (by omega)), ltb_def, ofi]
      exact ih (k + 1) f (by omega) (by omega)
theorem open_wp (h : RM b0 J σ A N) (hb : A 35 18 ≠ 0 → bdOk (up2 A 35 0 0)) (hu : 10000 ≤ fu) : wp (FR b0) σ (m_X12_open b0 fu (b0 + 35) σ) (PU b0 N A J opY) := by
  refine wp_grw (FR_good b0) (pubU_wp h (Nat.le_refl _) (fun ρ e q => ?_))
  have hb := hb e
  generalize up2 A 35 0 0 = A at *
  refine wp_bind (FR_good b0) (walkTo_wp (fu := fu) (w := 0) q (by omega) hb.1 hb.2.1 hu true) ?_
  intro v ρ2 ⟨e1, s, h2⟩
  have e1 : v = iz (wtA A 0 true) := e1
  obtain ⟨a1, a2⟩ := wt_bd (w := 0) (fo := true) q.ok
  have ge := iz_ge a1 a2
  have g36 := on36 (A := up2 A 35 51 s) (B := A) (up2_rown (by decide))
  subst e1
  have eO : ohA (up2 A 35 51 s) = ohA A := by unfold ohA; rw [up2_rown (by decide)]
  by_cases c : wtA A 0 true < 0
  · have eY : opY A s = (wtA A 0 true, up2 A 35 51 s) := if_pos c
    rw [if_neg (fun q => by have := ge.mp q; omega)]
    exact wp_ret ((FR_good b0).1 _) ⟨s, by rw [eY], by rw [eY]; exact h2⟩
  · rw [if_pos (ge.mpr (by omega))]
    obtain ⟨x, hx⟩ : ∃ x : Nat, wtA A 0 true = (x : Int) := ⟨(wtA A 0 true).toNat, by omega⟩
    have x64 : x < 64 := by omega
    have L2 := h2.ra.lay
    rw [hx, iz_n, ckR_35 L2]
    show wp (FR b0) ρ2 (cll (m_X12_node b0 fu (b0 + 35) (nI x) (nI 0) ρ2) (fun v4 ρ5 => if v4 = nI 2 then _ else L_X12_open_37 b0 fu fu (b0 + 35) (nI x) (nI 0) ρ5)) _
    rw [node_nd h2.ra x64 (by omega), cll_some, if_e (nd_bd h2.ra _ _) (by omega), g36.1]
    by_cases c2 : nd A x 0 = 2
    · have eY : opY A s = (-4, up2 A 35 51 s) := by unfold opY; rw [if_neg c, hx, Int.toNat_natCast, if_pos c2]
      rw [if_pos c2]
      exact wp_ret ((FR_good b0).1 _) ⟨s, by rw [eY]; rfl, by rw [eY]; exact h2⟩
    · rw [if_neg c2]
      obtain ⟨v, τ, x1, x2, y, x3, x4, x5⟩ := op37 (fu := fu) h2 x64 16 0 fu (by omega) (by omega)
      have x3 : y = ohA A := by rw [← eO]; exact x3
      subst x3
      by_cases c3 : ohA A = 16
      · have eY : opY A s = (-10, up2 A 35 51 s) := by unfold opY; rw [if_neg c, hx, Int.toNat_natCast, if_neg c2, if_pos c3]
        rw [if_pos c3] at x4 x5
        exact ⟨v, τ, x1, x2, s, by rw [eY]; exact x4, by rw [eY]; exact x5⟩
      · have eY : opY A s = ((ohA A : Int), up2 (up2 A 35 51 s) 71 (ohA A) (x + 1)) := by unfold opY; rw [if_neg c, hx, Int.toNat_natCast, if_neg c2, if_neg c3]
        rw [if_neg c3] at x4 x5
        exact ⟨v, τ, x1, x2, s, by rw [eY]; exact x4, by rw [eY]; exact x5⟩
theorem close_wp {x : Int32} (h : RM b0 J σ A N) (hN : N + 10 < 65536) (hl : A 35 6 ≤ 4096) (ho : uaOk (up2 A 35 0 0) J) (hu : 1200000 ≤ fu) (hb : ∀ un p, un ≤ N → uaX (up2 A 35 0 0) J un = .inl p → ∀ n, hdA p.1 x = some n → n < 64 ∧ mfOk (up2 p.1 71 x.toNatClampNeg 0) n) :
    wp (FR b0) σ (m_X12_close b0 fu (b0 + 35) x σ) (PQ b0 N (N + 2) A J (clY x)) := by
  refine wp_grw (FR_good b0) (pub2_wp h hl ho hu (by omega) (fun un p ρ hun e q => ?_))
  have b1 := hb un p hun e
  generalize p.1 = A at *
  have L := q.ra.lay
  rw [isHandle_eq q.ra, cll_some]
  cases eh : hdA A x with
  | none =>
    have eY : clY x A 0 = (-9, A) := by unfold clY; rw [eh]
    rw [if_pos (show nI (b2n (none : Option Nat).isSome) = 0 by decide)]
    exact wp_ret ((FR_good b0).1 _) ⟨0, by rw [eY]; rfl, by rw [eY]; exact RM_le q (by omega)⟩
  | some n =>
    have eY : clY x A 0 = (0, mfA (up2 A 71 x.toNatClampNeg 0) n) := by unfold clY; rw [eh]
    obtain ⟨n64, o1⟩ := b1 n eh
    have hh := eh
    unfold hdA at hh
    by_cases cc : ¬ x < 0 ∧ x < 16 ∧ A 71 x.toNatClampNeg ≠ 0
    · rw [if_pos cc] at hh
      obtain ⟨c1, c2, c3⟩ := cc
      obtain ⟨y, hy, rfl⟩ := nI_of c1
      have y16 : y < 16 := (nI_ltP (a := y) (b := 16) hy (by omega)).mp c2
      rw [nI_cl hy] at hh c3 eY o1
      have en : A 71 y - 1 = n := by cases hh; rfl
      rw [if_neg (show ¬ nI (b2n (some n).isSome) = 0 by show ¬ nI 1 = 0; decide), ckR_35 L, osm_p (rfR_35_58 L), ckR_71 L, ckI_n y16 (by omega), nI_cl hy, ltb_def, osm_p (rfR_35_58 L), ckR_71 L, ckI_n y16 (by omega), rd_71 q.ra, show nI (A 71 y) - 1 = nI (A 71 y - 1) from nI_sb (b := 1) (by omega), en]
      have h2 : RM b0 p.2 (sI ρ (b0 + 71) y (-1)) (up2 A 71 y 0) N := RM_fix (o := 71) (j := y) (x := 0) q rfl (by decide) (by show (-1 : Int32) = nI 0 - 1; decide) (by decide)
      refine wp_from (FR_good b0) (FR_sI (v := -1) (j := y) (refO_f 71 (by omega) (by omega))) ?_
      refine wp_bind (FR_good b0) (maybeFree_wp (fu := fu) h2 (by omega) (by omega) n64 o1) ?_
      intro _ ρ2 h3
      exact wp_ret ((FR_good b0).1 _) ⟨0, by rw [eY]; rfl, by rw [eY]; exact h3⟩
    · rw [if_neg cc] at hh
      cases hh
end OP
