/-! ===== PURE: the public methods that write, in both ===== -/
def SZ (Φ : tPh) (b0 : Nat) (bi : Nat → Nat) (w : Nat → Nat × Nat) (D : tD) (K e o : Nat) (v : Int32 ⊕ Unit) (τ : tM) (X : Int × tP) : Prop :=
  (v = .inl (iz X.1) ∧ X.2.1 35 0 = 0 ∧ ∃ sp C' D', CM b0 τ C' D' ∧ RO Φ bi sp w C' D' X.2.1 X.2.2 ∧ EL D D' e o ∧ dsk X.2.1 K) ∨
  (v = .inr () ∧ X.2.1 35 0 = 1 ∧ ∃ sp C' D', CM b0 τ C' D' ∧ OF Φ bi sp C' D' X.2.1 X.2.2 ∧ EL D D' e o)
/-- what a commit asks for -/
def bdS (A : tS) (K : Nat) : Prop := dsk A (K + 2104102) ∧ gsA A ≤ A 35 6 ∧ A 35 34 + 1 < 1000000 ∧ A 35 28 + 1 < 1000
section PUB
variable {Φ : tPh} {b0 fu : Nat} {σ τ : tM} {bi sp : Nat → Nat} {w : Nat → Nat × Nat} {C C' X : tS} {D D' D'' : tD} {A B : tS} {J J' : tJ} {K n m k r b id e o un : Nat}
theorem sC_0 {v : Nat} : sC A (up2 A 35 0 v) := ⟨fun p hp => up2_rown (by omega), fun q h _ _ => up2_j h⟩
theorem SZ_t {v : Int32 ⊕ Unit} {X : Int × tP} {e' o' : Nat} (k : EL D D' e o) (h : SZ Φ b0 bi w D' K e' o' v τ X) : SZ Φ b0 bi w D K (e + e') (o + o') v τ X := by
  rcases h with ⟨h1, h2, s, C2, D2, h3, h4, h5, h6⟩ | ⟨h1, h2, s, C2, D2, h3, h4, h5⟩
  · exact Or.inl ⟨h1, h2, s, C2, D2, h3, h4, EL_t k h5, h6⟩
  · exact Or.inr ⟨h1, h2, s, C2, D2, h3, h4, EL_t k h5⟩
theorem SZ_le {v : Int32 ⊕ Unit} {X : Int × tP} {e' o' : Nat} (h : SZ Φ b0 bi w D K e' o' v τ X) (h1 : e' ≤ e) (h2 : o' ≤ o) : SZ Φ b0 bi w D K e o v τ X := by
  rcases h with ⟨q1, q2, s, C2, D2, h3, h4, h5, h6⟩ | ⟨q1, q2, s, C2, D2, h3, h4, h5⟩
  · exact Or.inl ⟨q1, q2, s, C2, D2, h3, h4, EL_le h5 h1 h2, h6⟩
  · exact Or.inr ⟨q1, q2, s, C2, D2, h3, h4, EL_le h5 h1 h2⟩
theorem SZ_off (hΦ : goodT Φ) (hok : ∀ w A, Φ w A → okT A) (h : CM b0 τ C' D') (hR : OF Φ bi sp C' D' B J) (k : EL D D' e o) : SZ Φ b0 bi w D K e o (.inr ()) τ (ofS (B, J)) :=
  Or.inr ⟨rfl, up2_s B 35 0 1, sp, C', D', h, OF_scr hΦ hok hR sC_0, k⟩
/-- power first -/
theorem pub_c (hΦ : goodT Φ) (hok : ∀ w A, Φ w A → okT A) {k : Unit → tM → Option ((Int32 ⊕ Unit) × tM)} {f : tS → Nat → Int × tP} (h : CM b0 σ C D) (hR : RO Φ bi sp w C D A J ∨ OF Φ bi sp C D A J) (he : 6 ≤ e) (ho : 1 ≤ o)
    (hk : A 35 18 = 1 → RO Φ bi sp w C D (up2 A 35 0 0) J → wp (FC b0) σ (k () σ) (fun v τ => SZ Φ b0 bi w D K e o v τ (f (up2 A 35 0 0) un))) :
    wp (FC b0) σ (grw σ (ckO b0 σ (b0 + 0) 10 (osm (tA σ (b0 + 0) 0) (fun a3 => ckO b0 σ a3 0 (clx (m_X0_demandPower b0 fu a3 σ) k))))) (fun v τ => SZ Φ b0 bi w D K e o v τ (upX A J f un)) := by
  have L := h.lay
  refine wp_grw (FC_good b0) ?_
  rw [ckC_0 L, osm_p (rfC_0_0 L), ckC_1 L]
  rcases hR with hR | hR
  · have e18 : A 35 18 = 1 := hR.2.2.2.2.2.2.1
    have ex : upX A J f un = f (up2 A 35 0 0) un := if_neg (by omega)
    rw [ex, power_on h hR]
    exact hk e18 (RO_scr hΦ hok hR sC_0)
  · have ex : upX A J f un = ofS (up2 A 35 0 0, J) := if_pos hR.2.1
    rw [ex]
    refine wp_clx (FC_good b0) (power_off (fu := fu) hΦ hok h hR) (fun v ρ q => by cases q.1) (fun ρ q => ?_)
    exact SZ_off hΦ hok q.2.1 (OF_scr hΦ hok q.2.2.1 sC_0) (EL_le q.2.2.2 he ho)
/-- a flush last -/
theorem flt_c (hΦ : goodT Φ) (hok : ∀ w A, Φ w A → okT A) (hu : 3000 ≤ fu) {d : Nat} (h : CM b0 σ C D) (hR : RO Φ bi sp w C D A J) (hd : dsk A (K + 2)) (h0 : A 35 0 = 0) :
    wp (FC b0) σ (ckO b0 σ (b0 + 0) 10 (osm (tA σ (b0 + 0) 3) (fun a => ckO b0 σ a 1 (clx (m_X1_flush b0 fu a σ) (fun _ ρ => some (.inl (nI d), ρ)))))) (fun v τ => SZ Φ b0 bi w D K 6 1 v τ (flY d (A, J))) := by
  have L := h.lay
  have fc := flush_c (fu := fu) (K := K) hΦ hok h hR hd hu
  have ff := fun s e => flX_f (K := K) (s := s) hd hR.1.2.1.2.2.1 e
  show wp (FC b0) σ _ (fun v τ => SZ Φ b0 bi w D K 6 1 v τ (cmM (flushX A J) (fun t => ((d : Int), t))))
  generalize flushX A J = X at *
  rw [ckC_0 L, osm_p (rfC_0_3 L), ckC_20 L]
  cases X with
  | inl s =>
    refine wp_clx (FC_good b0) fc (fun v ρ q => ?_) (fun ρ q => by cases q.1)
    obtain ⟨-, C', D', q1, q2, q3⟩ := q
    have f := ff s rfl
    exact wp_ret ((FC_good b0).1 _) (Or.inl ⟨congrArg _ (iz_n _).symm, by show s.1 35 0 = 0; rw [f.2.2.2.2.2.2.2.1 0 (by omega)]; exact h0, sp, C', D', q1, q2, EL_le (EL_of q3) (by omega) (by omega), f.1⟩)
  | inr s =>
    refine wp_clx (FC_good b0) fc (fun v ρ q => by cases q.1) (fun ρ q => ?_)
    obtain ⟨-, C', D', q1, q2, q3⟩ := q
    exact SZ_off hΦ hok q1 q2 (EL_of q3)
theorem cm1_0 {size : Nat} {s : tP} (h : cm1X A J size un = .inl s) : s.1 35 0 = A 35 0 := by
  unfold cm1X at h
  generalize hX : lgX size 0 size (up2 A 35 34 (A 35 34 + 1)) = X at h
  cases X with
  | inr B => cases h
  | inl B =>
    have r := lg_rows _ _ _ _ hX
    have e : s = (cmF B size, recJ (up2 A 35 34 (A 35 34 + 1)) J size un) := by cases h; rfl
    rw [e]
    show cmF B size 35 0 = _
    rw [cmF_f.1, if_neg (by decide), if_neg (by decide), r.2 0 (by decide) (by decide) (by decide) (by decide) (by decide) (by decide), up2_j (by decide)]
theorem cm_0 {gz : Nat} {s : tP} (h0 : A 35 0 = 0) (hc : ∀ y, checkX A J = .inl y → y.1 35 0 = 0) (q : (if gz = 0 then .inl (A, J) else if gz ≤ freA_ A J then cm1X A J gz un else bP (checkX A J) (fun s => cm1X s.1 s.2 gz un)) = .inl s) : s.1 35 0 = 0 := by
  by_cases c : gz = 0
  · rw [if_pos c] at q
    cases q
    exact h0
  rw [if_neg c] at q
  by_cases c2 : gz ≤ freA_ A J
  · rw [if_pos c2] at q
    rw [cm1_0 q, h0]
  · rw [if_neg c2] at q
    generalize checkX A J = Y at q hc
    cases Y with
    | inr y => cases q
    | inl y =>
      have q : cm1X y.1 y.2 gz un = .inl s := q
      rw [cm1_0 q, hc y rfl]
/-- postGroup, then what is to follow -/
theorem pgt_c (hΦ : goodT Φ) (hok : ∀ w A, Φ w A → okT A) (hu : 5000 ≤ fu) {K1 : Nat} {k : Int32 → tM → Option ((Int32 ⊕ Unit) × tM)} {g : tP → Int × tP} (h : CM b0 σ C D) (hR : RO Φ bi sp w C D A J) (hb : bdS A K) (hun : un < 1000000000) (h0 : A 35 0 = 0)
    (hk : ∀ s ρ sp C' D', CM b0 ρ C' D' → RO Φ bi sp w C' D' s.1 s.2 → dsk s.1 K → s.1 35 0 = 0 → wp (FC b0) ρ (k (nI (gsA A)) ρ) (fun v τ => SZ Φ b0 bi w D' K1 e o v τ (g s))) :
    wp (FC b0) σ (ckO b0 σ (b0 + 0) 10 (osm (tA σ (b0 + 0) 3) (fun a => ckO b0 σ a 1 (clx (m_X1_postGroup b0 fu a σ) k)))) (fun v τ => SZ Φ b0 bi w D K1 (8 + 36 * tcA A + rcA A + e) (4 + 2 * tcA A + o) v τ (if gsA A = 0 then g (A, J) else cmM (cmX A J un) g)) := by
  have L := h.lay
  obtain ⟨b1, b2, b3, b4⟩ := hb
  have pg := postGroup_c (fu := fu) (K := K) (un := un) hΦ hok hu h hR b1 (by omega) (ck_tc (K := K + 4096) hΦ hok h hR (dsk_le b1 (by omega))) b2 hun b3 b4
  have cr := fun s e => ck_RO (s := s) (K := K) hΦ hok h hR (dsk_le b1 (by omega)) e
  have cx : cmX A J un = if gsA A ≤ freA_ A J then cm1X A J (gsA A) un else bP (checkX A J) (fun s => cm1X s.1 s.2 (gsA A) un) := rfl
  rw [cx]
  rw [cx] at pg
  clear cx b2
  generalize gsA A = gz at *
  have z := fun s => cm_0 (gz := gz) (un := un) (s := s) h0 (fun y e => by rw [(cr y e).2.2.2.2.2 0 (by omega), h0])
  generalize (if gz ≤ freA_ A J then cm1X A J gz un else bP (checkX A J) (fun s => cm1X s.1 s.2 gz un)) = X at *
  have eg : (if gz = 0 then g (A, J) else cmM X g) = cmM (if gz = 0 then .inl (A, J) else X) g := by
    by_cases c : gz = 0
    · rw [if_pos c, if_pos c]
      rfl
    · rw [if_neg c, if_neg c]
  rw [eg, ckC_0 L, osm_p (rfC_0_3 L), ckC_20 L]
  clear eg
  generalize (if gz = 0 then .inl (A, J) else X) = Y at *
  cases Y with
  | inl s =>
    refine wp_clx (FC_good b0) pg (fun v ρ q => ?_) (fun ρ q => by cases q.1)
    obtain ⟨q0, s2, C', D', q1, q2, q3, q4⟩ := q
    cases q0
    refine wp_mono (hk s ρ s2 C' D' q1 q2 q4 (z s rfl)) (fun v τ _ x => SZ_t q3 x)
  | inr s =>
    refine wp_clx (FC_good b0) pg (fun v ρ q => by cases q.1) (fun ρ q => ?_)
    obtain ⟨-, s2, C', D', q1, q2, q3⟩ := q
    exact SZ_off hΦ hok q1 q2 (EL_le q3 (by omega) (by omega))
/-- what writeDirty leaves -/
theorem wd_f {most : Nat} : ∀ m k d (A : tS) p, wdL most m k d A = .inl p → (∀ o, o ≠ 35 → o ≠ 48 → (o < 39 ∨ 46 < o) → p.2 o = A o) ∧ (∀ q, q ≤ 14 ∨ 22 ≤ q → p.2 35 q = A 35 q) := by
  intro m
  induction m with
  | zero =>
    intro k d A p h
    have h : Sum.inl (d, A) = (Sum.inl p : (Nat × tS) ⊕ tS) := h
    cases h
    exact ⟨fun _ _ _ _ => rfl, fun _ _ => rfl⟩
  | succ m ih =>
    intro k d A p h
    have lx : wdL most (m + 1) k d A = if most ≤ d then .inl (d, A) else if A 72 k = 0 ∨ A 48 k = 0 then wdL most m (k + 1) d A else (match verX A (34 + A 35 6 + k) 3 (A 36 (6080 + k * 274 + 1)) with | .inl B => wdL most m (k + 1) (d + 1) (up2 B 48 k 0) | .inr B => .inr B) := rfl
    rw [lx] at h
    by_cases c1 : most ≤ d
    · rw [if_pos c1] at h
      cases h
      exact ⟨fun _ _ _ _ => rfl, fun _ _ => rfl⟩
    rw [if_neg c1] at h
    by_cases c2 : A 72 k = 0 ∨ A 48 k = 0
    · rw [if_pos c2] at h
      exact ih _ _ _ _ h
    rw [if_neg c2] at h
    by_cases e2 : A 35 19 = 1
    · have ex2 : verX A (34 + A 35 6 + k) 3 (A 36 (6080 + k * 274 + 1)) = .inr (powA A) := if_pos e2
      rw [ex2] at h
      cases h
    · have ex2 : verX A (34 + A 35 6 + k) 3 (A 36 (6080 + k * 274 + 1)) = .inl (verA A (34 + A 35 6 + k) 3 (A 36 (6080 + k * 274 + 1))) := if_neg e2
      rw [ex2] at h
      have kv := dk_ver (A := A) (b := 34 + A 35 6 + k) (wh := 3) (id := A 36 (6080 + k * 274 + 1))
      generalize verA A (34 + A 35 6 + k) 3 (A 36 (6080 + k * 274 + 1)) = B at *
      obtain ⟨i1, i2⟩ := ih _ _ _ _ h
      refine ⟨fun o a b c => by rw [i1 o a b c, up2_rown b, kv.1 o a c], fun q hq => by rw [i2 q hq, up2_rown (by decide), kv.2 q (by omega) (by omega) (by omega) (by omega) (by omega) (by omega)]⟩
theorem wdL_most {x y : Nat} : ∀ m k d (A : tS), d + m ≤ x → d + m ≤ y → wdL x m k d A = wdL y m k d A
  | 0, _, _, _, _, _ => rfl
  | m + 1, k, d, A, hx, hy => by
    have lx : ∀ z, wdL z (m + 1) k d A = if z ≤ d then .inl (d, A) else if A 72 k = 0 ∨ A 48 k = 0 then wdL z m (k + 1) d A else (match verX A (34 + A 35 6 + k) 3 (A 36 (6080 + k * 274 + 1)) with | .inl B => wdL z m (k + 1) (d + 1) (up2 B 48 k 0) | .inr B => .inr B) := fun _ => rfl
    rw [lx x, lx y, if_neg (show ¬ x ≤ d by omega), if_neg (show ¬ y ≤ d by omega), wdL_most (x := x) (y := y) m (k + 1) d A (by omega) (by omega)]
    have : ∀ B, wdL x m (k + 1) (d + 1) B = wdL y m (k + 1) (d + 1) B := fun B => wdL_most (x := x) (y := y) m (k + 1) (d + 1) B (by omega) (by omega)
    simp only [this]
theorem wdX_most {o : Option Nat} {x y : Nat} (hx : A 35 7 ≤ x) (hy : A 35 7 ≤ y) : wdX o x A = wdX o y A := wdL_most _ _ _ _ (by omega) (by omega)
theorem wdX_f {o : Option Nat} {most : Nat} {p : Nat × tS} (h : wdX o most A = .inl p) : (∀ o, o ≠ 35 → o ≠ 48 → o ≠ 72 → (o < 39 ∨ 46 < o) → p.2 o = A o) ∧ (∀ q, q ≤ 14 ∨ 22 ≤ q → p.2 35 q = A 35 q) := by
  obtain ⟨h1, h2⟩ := wd_f _ _ _ _ _ h
  have f := wdI_f (A := A) (o := o)
  exact ⟨fun q a b c d => by rw [h1 q a b d, f q c], fun q hq => by rw [h2 q hq, f 35 (by decide)]⟩
/-- writeDirty, then what is to follow -/
theorem wdt_c (hΦ : goodT Φ) (hok : ∀ w A, Φ w A → okT A) (hu : 3000 ≤ fu) {K1 : Nat} {q : Option Nat} {most : Nat} {k : Int32 → tM → Option ((Int32 ⊕ Unit) × tM)} {g : Nat → tS → Int × tP} (hm : most < 2147483648) (h : CM b0 σ C D) (hR : RO Φ bi sp w C D A J) (hd : dsk A (K + 2000)) (h0 : A 35 0 = 0) (hq : ∀ n, q = some n → n < 64 ∧ nd A n 0 = 1 ∧ ∀ i, i < 1064 → nd A n 1 ≤ 256 * i → hasA A n i = 0) (he : 6 ≤ e) (ho : 1 ≤ o)
    (hk : ∀ d B ρ C' D', (∀ o, o ≠ 35 → o ≠ 48 → o ≠ 72 → (o < 39 ∨ 46 < o) → B o = A o) → (∀ q, q ≤ 14 ∨ 22 ≤ q → B 35 q = A 35 q) → CM b0 ρ C' D' → RO Φ bi sp w C' D' B J → dsk B K → wp (FC b0) ρ (k (nI d) ρ) (fun v τ => SZ Φ b0 bi w D' K1 e o v τ (g d B))) :
    wp (FC b0) σ (ckO b0 σ (b0 + 0) 10 (clx (m_X10_writeDirty b0 fu (b0 + 0) (oI q) (nI most) σ) k)) (fun v τ => SZ Φ b0 bi w D K1 e o v τ (wdY q most J A g)) := by
  have wd := writeDirty_c (fu := fu) (K := K) hΦ hok hu (o := q) hm h hR hd hq
  have wf := fun p e => wdX_f (o := q) (most := most) (A := A) (p := p) e
  unfold wdY
  rw [ckC_0 h.lay]
  generalize wdX q most A = Y at *
  cases Y with
  | inl p =>
    refine wp_clx (FC_good b0) wd (fun v ρ x => ?_) (fun ρ x => by cases x.1)
    obtain ⟨x0, C', D', x1, x2, x3, x4⟩ := x
    cases x0
    obtain ⟨f1, f2⟩ := wf p rfl
    refine wp_mono (hk p.1 p.2 ρ C' D' f1 f2 x1 x2 x4) (fun v τ _ x => SZ_le (SZ_t (EL_of x3) x) (by omega) (by omega))
  | inr B =>
    refine wp_clx (FC_good b0) wd (fun v ρ x => by cases x.1) (fun ρ x => ?_)
    obtain ⟨-, C', D', x1, x2, x3⟩ := x
    exact SZ_off hΦ hok x1 x2 (EL_le (EL_of x3) he ho)
end PUB
