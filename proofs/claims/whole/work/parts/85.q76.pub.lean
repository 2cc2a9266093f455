/-! ===== PURE: sync, fsync, fdatasync, post, writeBack, in both ===== -/
section PUC
variable {Φ : tPh} {b0 fu : Nat} {σ τ : tM} {bi sp : Nat → Nat} {w : Nat → Nat × Nat} {C C' X : tS} {D D' D'' : tD} {A B : tS} {J J' : tJ} {K n m k r b id e o un : Nat}
theorem bdS_wd (hb : bdS A (K + 2000)) (f1 : ∀ o, o ≠ 35 → o ≠ 48 → o ≠ 72 → (o < 39 ∨ 46 < o) → B o = A o) (f2 : ∀ q, q ≤ 14 ∨ 22 ≤ q → B 35 q = A 35 q) (hd : dsk B (K + 2104102)) : bdS B K ∧ tcA B = tcA A ∧ rcA B = rcA A ∧ gsA B = gsA A := by
  obtain ⟨b1, b2, b3, b4⟩ := hb
  have t : tcA B = tcA A := by
    unfold tcA
    rw [f1 51 (by decide) (by decide) (by decide) (by decide)]
  have r : rcA B = rcA A := by
    unfold rcA
    rw [f1 52 (by decide) (by decide) (by decide) (by decide)]
  have g : gsA B = gsA A := by
    unfold gsA
    rw [t, r]
  refine ⟨⟨hd, ?_, ?_, ?_⟩, t, r, g⟩
  · rw [g, f2 6 (by omega)]
    exact b2
  · rw [f2 34 (by omega)]
    exact b3
  · rw [f2 28 (by omega)]
    exact b4
theorem wdY_most {q : Option Nat} {x y : Nat} {g : Nat → tS → Int × tP} (hx : A 35 7 ≤ x) (hy : A 35 7 ≤ y) : wdY q x J A g = wdY q y J A g := by
  unfold wdY
  rw [wdX_most hx hy]
/-- postGroup and flush, last -/
theorem cft_c (hΦ : goodT Φ) (hok : ∀ w A, Φ w A → okT A) (hu : 5000 ≤ fu) {d : Nat} (h : CM b0 σ C D) (hR : RO Φ bi sp w C D A J) (hb : bdS A (K + 2)) (hun : un < 1000000000) (h0 : A 35 0 = 0) :
    wp (FC b0) σ (ckO b0 σ (b0 + 0) 10 (osm (tA σ (b0 + 0) 3) (fun a => ckO b0 σ a 1 (clx (m_X1_postGroup b0 fu a σ) (fun _ ρ => ckO b0 ρ (b0 + 0) 10 (osm (tA ρ (b0 + 0) 3) (fun a => ckO b0 ρ a 1 (clx (m_X1_flush b0 fu a ρ) (fun _ ρ => some (.inl (nI d), ρ)))))))))) (fun v τ => SZ Φ b0 bi w D K (8 + 36 * tcA A + rcA A + 6) (4 + 2 * tcA A + 1) v τ (if gsA A = 0 then flY d (A, J) else cfY un d (A, J))) :=
  pgt_c (K := K + 2) (K1 := K) (g := fun t => flY d t) hΦ hok hu h hR hb hun h0 (fun s ρ sp2 C' D' q1 q2 q3 q4 => flt_c hΦ hok (by omega) q1 q2 q3 q4)
theorem ro7 (hR : RO Φ bi sp w C D A J) : A 35 7 ≤ 2000 := hR.2.1.zm.1.2.2.2.1
/-- sync -/
theorem sync_c (hΦ : goodT Φ) (hok : ∀ w A, Φ w A → okT A) (hu : 5000 ≤ fu) (h : CM b0 σ C D) (hR : RO Φ bi sp w C D A J ∨ OF Φ bi sp C D A J) (hb : A 35 18 = 1 → bdS (up2 A 35 0 0) (K + 2002)) (hun : un < 1000000000) :
    wp (FC b0) σ (m_X10_sync b0 fu (b0 + 0) σ) (fun v τ => SZ Φ b0 bi w D K (14 + 36 * tcA (up2 A 35 0 0) + rcA (up2 A 35 0 0)) (5 + 2 * tcA (up2 A 35 0 0)) v τ (upX A J (snY J) un)) := by
  refine pub_c hΦ hok h hR (by omega) (by omega) (fun e18 q => ?_)
  have hb := hb e18
  have h0 : up2 A 35 0 0 35 0 = 0 := up2_s A 35 0 0
  generalize up2 A 35 0 0 = A at *
  unfold snY
  rw [wdY_most (x := 2000) (y := 1000000) (ro7 q) (by have := ro7 q; omega)]
  refine wdt_c (K := K + 2 + 2104102) (q := none) (most := 1000000) (g := fun d B => if gsA B = 0 then flY d (B, J) else cfY un d (B, J)) hΦ hok (by omega) (by omega) h q (dsk_le hb.1 (by omega)) h0 (fun n e => by cases e) (by omega) (by omega) (fun d B ρ C' D' f1 f2 x1 x2 x3 => ?_)
  obtain ⟨y1, y2, y3, y4⟩ := bdS_wd (K := K + 2) hb f1 f2 x3
  have t := cft_c (fu := fu) (K := K) (d := d) hΦ hok hu x1 x2 y1 hun (by rw [f2 0 (by omega)]; exact h0)
  rw [y2, y3] at t
  exact wp_mono t (fun v τ _ z => SZ_le z (by omega) (by omega))
/-- post -/
theorem post_c (hΦ : goodT Φ) (hok : ∀ w A, Φ w A → okT A) (hu : 5000 ≤ fu) (h : CM b0 σ C D) (hR : RO Φ bi sp w C D A J ∨ OF Φ bi sp C D A J) (hb : A 35 18 = 1 → bdS (up2 A 35 0 0) K) (hun : un < 1000000000) :
    wp (FC b0) σ (m_X10_post b0 fu (b0 + 0) σ) (fun v τ => SZ Φ b0 bi w D K (14 + 36 * tcA (up2 A 35 0 0) + rcA (up2 A 35 0 0)) (5 + 2 * tcA (up2 A 35 0 0)) v τ (upX A J (poY J) un)) := by
  refine pub_c hΦ hok h hR (by omega) (by omega) (fun e18 q => ?_)
  have hb := hb e18
  have h0 : up2 A 35 0 0 35 0 = 0 := up2_s A 35 0 0
  generalize up2 A 35 0 0 = A at *
  have t := pgt_c (fu := fu) (K := K) (K1 := K) (e := 0) (o := 0) (un := un) (k := fun v16 ρ17 => some (.inl v16, ρ17)) (g := fun t => (((gsA A : Nat) : Int), t)) hΦ hok hu h q hb hun h0 (fun s ρ sp2 C' D' q1 q2 q3 q4 => wp_ret ((FC_good b0).1 _) (Or.inl ⟨congrArg _ (iz_n _).symm, q4, sp2, C', D', q1, q2, EL_of (EP_r D'), q3⟩))
  have e : poY J A un = if gsA A = 0 then (((gsA A : Nat) : Int), (A, J)) else cmM (cmX A J un) (fun t => (((gsA A : Nat) : Int), t)) := by
    unfold poY
    generalize gsA A = gz
    by_cases c : gz = 0
    · rw [if_pos c, if_pos c, c]
      rfl
    · rw [if_neg c, if_neg c]
  rw [e]
  exact wp_mono t (fun v τ _ z => SZ_le z (by omega) (by omega))
/-- writeBack -/
theorem writeBack_c (hΦ : goodT Φ) (hok : ∀ w A, Φ w A → okT A) (hu : 5000 ≤ fu) {x : Int32} (h : CM b0 σ C D) (hR : RO Φ bi sp w C D A J ∨ OF Φ bi sp C D A J) (hb : A 35 18 = 1 → dsk (up2 A 35 0 0) (K + 2000)) :
    wp (FC b0) σ (m_X10_writeBack b0 fu (b0 + 0) x σ) (fun v τ => SZ Φ b0 bi w D K 6 1 v τ (upX A J (wbY x J) un)) := by
  refine pub_c hΦ hok h hR (by omega) (by omega) (fun e18 q => ?_)
  have hb := hb e18
  have h0 : up2 A 35 0 0 35 0 = 0 := up2_s A 35 0 0
  generalize up2 A 35 0 0 = A at *
  unfold wbY
  show wp (FC b0) σ (if (0 : Int32) ≤ x then _ else _) _
  by_cases c : x < 0
  · rw [if_neg (Int32.not_le.mpr c), if_pos c]
    exact wp_ret ((FC_good b0).1 _) (Or.inl ⟨rfl, h0, sp, C, D, h, q, EL_le (EL_of (EP_r D)) (by omega) (by omega), dsk_le hb (by omega)⟩)
  · rw [if_pos (Int32.not_lt.mp c), if_neg c]
    obtain ⟨m, hm, rfl⟩ := nI_of c
    rw [nI_cl hm]
    exact wdt_c (K := K) (q := none) (most := m) (g := fun d B => ((d : Int), (B, J))) hΦ hok (by omega) hm h q hb h0 (fun n e => by cases e) (by omega) (by omega) (fun d B ρ C' D' f1 f2 x1 x2 x3 => wp_ret ((FC_good b0).1 _) (Or.inl ⟨congrArg _ (iz_n _).symm, by show B 35 0 = 0; rw [f2 0 (by omega)]; exact h0, sp, C', D', x1, x2, EL_le (EL_of (EP_r D')) (by omega) (by omega), x3⟩))
/-- fileOf -/
theorem fileOf_c (h : CA b0 σ C) (hc : ∀ i, i < 16 → C 32 i = A 71 i) (x : Int32) : m_X10_fileOf b0 fu (b0 + 0) x σ = some ((match hdA A x with | none => -9 | some n => nI n), σ) := by
  have L := h.lay
  unfold m_X10_fileOf J_X10_fileOf_19 J_X10_fileOf_30 hdA
  by_cases e0 : x < 0
  · rw [if_pos e0, if_neg (fun q => q.1 e0)]
    exact grw_same
  · obtain ⟨n, hn, rfl⟩ := nI_of e0
    rw [if_neg e0]
    by_cases e1 : n < 16
    · have b71 := cb_32 h n
      rw [hc n e1] at b71
      rw [show (16 : Int32) = nI 16 from rfl, if_l (a := 16) (b := n) (by omega) (by omega), if_neg (show ¬ 16 ≤ n by omega), ckC_0 L, osm_p (rfC_0_9 L), ckC_32 L, ckI_n e1 (by omega), nI_cl hn, cd_32 h, hc n e1]
      by_cases e2 : A 71 n = 0
      · rw [e2, if_neg (show ¬ (0 : Int32) ≤ nI 0 - 1 by decide), if_neg (fun q => q.2.2 rfl)]
        exact grw_same
      · rw [show nI (A 71 n) - 1 = nI (A 71 n - 1) from nI_sb (b := 1) (by omega), if_pos (show (0 : Int32) ≤ nI (A 71 n - 1) from Int32.not_lt.mp (nI_pos (by omega))), if_pos ⟨e0, (nI_ltP (a := n) (b := 16) (by omega) (by omega)).mpr e1, e2⟩, osm_p (rfC_0_9 L), ckC_32 L, ckI_n e1 (by omega), cd_32 h, hc n e1, show nI (A 71 n) - 1 = nI (A 71 n - 1) from nI_sb (b := 1) (by omega)]
        exact grw_same
    · rw [show (16 : Int32) = nI 16 from rfl, if_l (a := 16) (b := n) (by omega) (by omega), if_pos (show 16 ≤ n by omega), if_neg (fun q => e1 ?_)]
      · exact grw_same
      · have := (nI_ltP (a := n) (b := 16) (by omega) (by omega)).mp q.2.1
        exact this
/-- fsync -/
theorem fsync_c (hΦ : goodT Φ) (hok : ∀ w A, Φ w A → okT A) (hu : 5000 ≤ fu) {x : Int32} (h : CM b0 σ C D) (hR : RO Φ bi sp w C D A J ∨ OF Φ bi sp C D A J) (hb : A 35 18 = 1 → bdS (up2 A 35 0 0) (K + 2002)) (hh : A 35 18 = 1 → ∀ n, hdA (up2 A 35 0 0) x = some n → n < 64 ∧ nd (up2 A 35 0 0) n 0 = 1 ∧ ∀ i, i < 1064 → nd (up2 A 35 0 0) n 1 ≤ 256 * i → hasA (up2 A 35 0 0) n i = 0) (hun : un < 1000000000) :
    wp (FC b0) σ (m_X10_fsync b0 fu (b0 + 0) x σ) (fun v τ => SZ Φ b0 bi w D K (14 + 36 * tcA (up2 A 35 0 0) + rcA (up2 A 35 0 0)) (5 + 2 * tcA (up2 A 35 0 0)) v τ (upX A J (fsY x J) un)) := by
  refine pub_c hΦ hok h hR (by omega) (by omega) (fun e18 q => ?_)
  have hb := hb e18
  have hh := hh e18
  have h0 : up2 A 35 0 0 35 0 = 0 := up2_s A 35 0 0
  generalize up2 A 35 0 0 = A at *
  rw [ckC_0 h.lay, fileOf_c (A := A) h.ca q.2.1.zm.2.2.2.2.2.2.2.2.1 x, cll_some]
  unfold fsY
  cases e : hdA A x with
  | none =>
    show wp (FC b0) σ (if (0 : Int32) ≤ -9 then _ else _) _
    rw [if_neg (by decide)]
    exact wp_ret ((FC_good b0).1 _) (Or.inl ⟨rfl, h0, sp, C, D, h, q, EL_le (EL_of (EP_r D)) (by omega) (by omega), dsk_le hb.1 (by omega)⟩)
  | some n =>
    have hn := hh n e
    show wp (FC b0) σ (if (0 : Int32) ≤ nI n then _ else _) (fun v τ => SZ Φ b0 bi w D K _ _ v τ (wdY (some n) 2000 J A (fun d B => if gsA B = 0 then flY d (B, J) else cfY un d (B, J))))
    rw [if_pos (Int32.not_lt.mp (nI_pos (by omega))), wdY_most (x := 2000) (y := 1000000) (ro7 q) (by have := ro7 q; omega)]
    refine wdt_c (K := K + 2 + 2104102) (q := some n) (most := 1000000) (g := fun d B => if gsA B = 0 then flY d (B, J) else cfY un d (B, J)) hΦ hok (by omega) (by omega) h q (dsk_le hb.1 (by omega)) h0 (fun n' e' => by cases e'; exact hn) (by omega) (by omega) (fun d B ρ C' D' f1 f2 x1 x2 x3 => ?_)
    obtain ⟨y1, y2, y3, y4⟩ := bdS_wd (K := K + 2) hb f1 f2 x3
    have t := cft_c (fu := fu) (K := K) (d := d) hΦ hok hu x1 x2 y1 hun (by rw [f2 0 (by omega)]; exact h0)
    rw [y2, y3] at t
    exact wp_mono t (fun v τ _ z => SZ_le z (by omega) (by omega))
/-- fdatasync -/
theorem fdatasync_c (hΦ : goodT Φ) (hok : ∀ w A, Φ w A → okT A) (hu : 5000 ≤ fu) {x : Int32} (h : CM b0 σ C D) (hR : RO Φ bi sp w C D A J ∨ OF Φ bi sp C D A J) (hb : A 35 18 = 1 → bdS (up2 A 35 0 0) (K + 2002)) (hh : A 35 18 = 1 → ∀ n, hdA (up2 A 35 0 0) x = some n → (n < 64 ∧ nd (up2 A 35 0 0) n 0 = 1 ∧ ∀ i, i < 1064 → nd (up2 A 35 0 0) n 1 ≤ 256 * i → hasA (up2 A 35 0 0) n i = 0) ∧ (up2 A 35 0 0 50 n ≠ 0 → gsA (up2 A 35 0 0) ≠ 0)) (hun : un < 1000000000) :
    wp (FC b0) σ (m_X10_fdatasync b0 fu (b0 + 0) x σ) (fun v τ => SZ Φ b0 bi w D K (14 + 36 * tcA (up2 A 35 0 0) + rcA (up2 A 35 0 0)) (5 + 2 * tcA (up2 A 35 0 0)) v τ (upX A J (fdY x J) un)) := by
  refine pub_c hΦ hok h hR (by omega) (by omega) (fun e18 q => ?_)
  have hb := hb e18
  have hh := hh e18
  have h0 : up2 A 35 0 0 35 0 = 0 := up2_s A 35 0 0
  generalize up2 A 35 0 0 = A at *
  rw [ckC_0 h.lay, fileOf_c (A := A) h.ca q.2.1.zm.2.2.2.2.2.2.2.2.1 x, cll_some]
  unfold fdY
  cases e : hdA A x with
  | none =>
    show wp (FC b0) σ (if (0 : Int32) ≤ -9 then _ else _) _
    rw [if_neg (by decide)]
    exact wp_ret ((FC_good b0).1 _) (Or.inl ⟨rfl, h0, sp, C, D, h, q, EL_le (EL_of (EP_r D)) (by omega) (by omega), dsk_le hb.1 (by omega)⟩)
  | some n =>
    obtain ⟨hn, hc⟩ := hh n e
    show wp (FC b0) σ (if (0 : Int32) ≤ nI n then _ else _) (fun v τ => SZ Φ b0 bi w D K _ _ v τ (wdY (some n) 2000 J A (fun d B => if B 50 n = 0 then flY d (B, J) else cfY un d (B, J))))
    rw [if_pos (Int32.not_lt.mp (nI_pos (by omega))), wdY_most (x := 2000) (y := 1000000) (ro7 q) (by have := ro7 q; omega)]
    refine wdt_c (K := K + 2 + 2104102) (q := some n) (most := 1000000) (g := fun d B => if B 50 n = 0 then flY d (B, J) else cfY un d (B, J)) hΦ hok (by omega) (by omega) h q (dsk_le hb.1 (by omega)) h0 (fun n' e' => by cases e'; exact hn) (by omega) (by omega) (fun d B ρ C' D' f1 f2 x1 x2 x3 => ?_)
    obtain ⟨y1, y2, y3, y4⟩ := bdS_wd (K := K + 2) hb f1 f2 x3
    have z := x2.2.1.zm.2.2.2.2.2.2.2.1 n hn.1
    have b19 := cb_19 x1.ca n
    have L := x1.lay
    have e50 : B 50 = A 50 := f1 50 (by decide) (by decide) (by decide) (by decide)
    have B0 : B 35 0 = 0 := by rw [f2 0 (by omega)]; exact h0
    rw [ckC_0 L, osm_p (rfC_0_2 L), ckC_18 L, isChanged_c x1.ca hn.1, cll_some]
    show wp (FC b0) ρ (if nI (C' 19 n) = nI 0 then _ else _) (fun v τ => SZ Φ b0 bi w D' K _ _ v τ (if B 50 n = 0 then flY d (B, J) else cfY un d (B, J)))
    rw [if_e (by omega) (by omega)]
    unfold J_X10_fdatasync_48
    by_cases c : B 50 n = 0
    · rw [if_pos (z.mpr c), if_pos c]
      exact wp_mono (flt_c hΦ hok (by omega) x1 x2 (dsk_le x3 (by omega)) B0) (fun v τ _ z => SZ_le z (by omega) (by omega))
    · rw [if_neg (fun q => c (z.mp q)), if_neg c]
      have t := cft_c (fu := fu) (K := K) (d := d) hΦ hok hu x1 x2 y1 hun B0
      rw [y2, y3, if_neg (by rw [y4]; exact hc (by rw [← e50]; exact c))] at t
      exact wp_mono t (fun v τ _ z => SZ_le z (by omega) (by omega))
end PUC
