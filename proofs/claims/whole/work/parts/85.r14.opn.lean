/-! ===== PURE: open and entry, in both ===== -/
section OPN
variable {Φ : tPh} {b0 fu : Nat} {σ τ : tM} {bi sp : Nat → Nat} {w : Nat → Nat × Nat} {C C' X : tS} {D D' : tD} {A B : tS} {J J' : tJ} {K n m k r t : Nat}
/-- a handle -/
theorem SR_hdl {h v : Nat} (q : SR bi w C A) : SR bi w (up2 C 32 h v) (up2 A 71 h v) := by
  have co : ∀ p, p ≠ 32 → up2 C 32 h v p = C p := fun p hp => up2_rown hp
  have ao : ∀ p, p ≠ 71 → up2 A 71 h v p = A p := fun p hp => up2_rown hp
  have c10 := co 10 (by decide)
  have c11 := co 11 (by decide)
  have c12 := co 12 (by decide)
  have a36 := ao 36 (by decide)
  have a35 := ao 35 (by decide)
  refine ⟨rk_by (ci_cong q.rk.1 (fun q _ => by rw [c10]) (co 15 (by decide)) (co 16 (by decide)) (co 17 (by decide))) (sk_cong q.rk.2.1 c12 (fun q _ => by rw [c10])) (by rw [c10]) q.rk, ?_, ?_, ?_, ?_, ?_, ?_, ?_⟩
  · have := q.ti
    unfold TI slo hasA leafA us nd pt eZ at this ⊢
    rw [a36, a35]
    exact this
  · have := q.mr
    unfold MR NW BW EW us nd pt eZ pv se at this ⊢
    rw [a36, c11]
    exact this
  · have := q.fb
    unfold FB us nd at this ⊢
    rw [a36, c11, ao 47 (by decide)]
    exact this
  · have := q.bj
    unfold BJ us se at this ⊢
    rw [a36, a35, c10]
    exact this
  · obtain ⟨z1, z6, z7, z8, z9, z10, z11, z12, z13, z14⟩ := q.zm
    unfold ZM us nbA se
    unfold us se at z7
    unfold nbA at z8
    unfold us at z14
    rw [a36, a35, ao 49 (by decide), ao 51 (by decide), ao 52 (by decide), ao 48 (by decide), ao 50 (by decide), c10, c12, co 13 (by decide), co 14 (by decide), co 15 (by decide), co 16 (by decide), co 17 (by decide), co 19 (by decide)]
    refine ⟨z1, z6, z7, z8, z9, z10, z11, z12, fun g hg => ?_, z14⟩
    by_cases c : g = h
    · rw [c, up2_s, up2_s]
    · rw [up2_j c, up2_j c]
      exact z13 g hg
  · have := q.ok
    unfold okT at this ⊢
    rw [a36]
    exact this
  · have := q.gh
    unfold GH us nd at this ⊢
    rw [a36, a35, ao 49 (by decide), ao 48 (by decide), c11, co 15 (by decide), co 16 (by decide), co 100 (by decide)]
    exact this
theorem RO_hdl {h v : Nat} (hΦ : goodT Φ) (hok : ∀ w A, Φ w A → okT A) (hTI : ∀ w A, Φ w A → TI w A) (q : RO Φ bi sp w C D A J) : RO Φ bi sp w (up2 C 32 h v) D (up2 A 71 h v) J := by
  refine RO_mem hΦ hok hTI q (fun p hp => up2_rown (by omega)) (fun _ _ => rfl) (fun o _ _ => up2_rown (by omega)) (fun q _ _ _ => up2_o (by decide)) (by rw [up2_o (by decide)]; exact Nat.le_refl _) (SR_hdl q.2.1) (hΦ w A _ (up2_rown (by decide)) (up2_o (by decide)) q.2.2.1) ?_
  exact TP_all q.1.2.2.2.2.2.2.2.2.2 (fun p hp => up2_rown (by omega)) (fun o ho => up2_rown (by omega)) (up2_o (by decide))
theorem open_lp {f0 : Nat} (hc : ∀ i, i < 16 → C 32 i = A 71 i) (h : CM b0 σ C D) (hn : n < 64) : ∀ m k f, k + m = 16 → m < f → wp (FC b0) σ (L_X10_open_43 b0 f0 f (b0 + 0) (nI n) (nI k) σ) (fun v τ => (sr (fun h => A 71 h == 0) k m = 16 → v = .inl (iz (-10)) ∧ CM b0 τ C D) ∧ (sr (fun h => A 71 h == 0) k m < 16 → v = .inl (iz (sr (fun h => A 71 h == 0) k m : Nat)) ∧ CM b0 τ (up2 C 32 (sr (fun h => A 71 h == 0) k m) (n + 1)) D)) := by
  have L := h.lay
  intro m
  induction m with
  | zero =>
    intro k f hk hf
    obtain ⟨f, rfl⟩ : ∃ g, f = g + 1 := ⟨f - 1, by omega⟩
    have e : k = 16 := by omega
    subst e
    unfold L_X10_open_43
    rw [ltb_def, if_pos (show (16 : Int32) ≤ nI 16 by decide)]
    refine wp_ret ((FC_good b0).1 _) ⟨fun _ => ⟨rfl, h⟩, fun q => ?_⟩
    have : sr (fun h => A 71 h == 0) 16 0 = 16 := rfl
    omega
  | succ m ih =>
    intro k f hk hf
    obtain ⟨f, rfl⟩ : ∃ g, f = g + 1 := ⟨f - 1, by omega⟩
    have b := cb_32 h.ca k
    unfold L_X10_open_43
    rw [ltb_def, show (16 : Int32) = nI 16 from rfl, if_l (by omega) (by omega), if_neg (by omega), ckC_0 L, osm_p (rfC_0_9 L), ckC_32 L, ckI_n (by omega) (by omega), nI_cl (by omega), cd_32 h.ca]
    have es : sr (fun h => A 71 h == 0) k (m + 1) = if A 71 k = 0 then k else sr (fun h => A 71 h == 0) (k + 1) m := by
      show (if (A 71 k == 0) = true then k else sr (fun h => A 71 h == 0) (k + 1) m) = _
      by_cases c : A 71 k = 0
      · rw [if_pos c, if_pos (by simpa using c)]
      · rw [if_neg c, if_neg (by simpa using c)]
    rw [es]
    by_cases c : A 71 k = 0
    · have cc : C 32 k = 0 := by rw [hc k (by omega)]; exact c
      rw [cc, if_neg (show ¬ (0 : Int32) ≤ nI 0 - 1 by decide), osm_p (rfC_0_9 L), ckC_32 L, ckI_n (by omega) (by omega), if_pos c]
      refine wp_ret (FC_sI h.rf (by omega)) ⟨fun q => by omega, fun _ => ⟨by rw [iz_n], ?_⟩⟩
      exact CM_fix (o := 32) h rfl (show nI n = nI (n + 1) - 1 from (nI_sb (a := n + 1) (b := 1) (by omega)).symm) (by show n + 1 < 2147483648; omega)
    · have cc : C 32 k ≠ 0 := by rw [hc k (by omega)]; exact c
      obtain ⟨y, hy⟩ : ∃ y, C 32 k = y + 1 := ⟨C 32 k - 1, by omega⟩
      rw [hy, show nI (y + 1) - 1 = nI y from nI_sb (a := y + 1) (b := 1) (by omega), if_pos (show (0 : Int32) ≤ nI y from (nI_leP (a := 0) (b := y) (by omega) (by rw [hy] at b; omega)).mpr (by omega)), ltb_def, ofi, if_neg c]
      exact ih (k + 1) f (by omega) (by omega)
theorem open_c (hu : 10000 ≤ fu) (h : CM b0 σ C D) (hR : ST (PH t) bi sp w C D A J) (hP : patOk A) : wp (FC b0) σ (m_X10_open b0 fu (b0 + 0) σ) (fun v τ => ∀ s, QZ (PH t) b0 D J v τ (pubU A s opY)) := by
  have hΦ := PH_good t
  have hok : ∀ w A, PH t w A → okT A := PH_ok
  have hP := patOk_0 (v := 0) hP
  refine pubR_c hΦ hok h hR (fun q h0 => ?_)
  generalize up2 A 35 0 0 = A at *
  have L := h.lay
  have S := q.2.1
  have P := q.2.2.1
  have o1 : (1 : Int32) = nI (b2n true) := rfl
  rw [ckC_0 L, osm_p (rfC_0_5 L), osm_p (rfC_0_7 L), ckC_24 L, o1]
  refine wp_bind (FC_good b0) (walkWhole_c (fu := fu) (w := 0) (by omega) h S.rk.1 (VW_of S P.di) q.1.2.2.2.2.2.2.2.2.2 hP true hu) ?_
  rintro v ρ ⟨e1, C2, q1, q2⟩
  have e1 : v = iz (wtA A 0 true) := e1
  obtain ⟨a1, a2⟩ := wt_bd (w := 0) (fo := true) P.1
  have ge := iz_ge a1 a2
  have id : ∀ (v : Int) s, QZ (PH t) b0 D J (.inl (iz v)) ρ (v, up2 A 35 51 s) := fun v s => RO_q hΦ hok q1 q h0 q2 sC_51 (by rw [up2_j (by decide)]; exact h0)
  subst e1
  by_cases c : wtA A 0 true < 0
  · rw [if_neg (fun q => by have := ge.mp q; omega)]
    refine wp_ret ((FC_good b0).1 _) (fun s => ?_)
    have e : opY A s = (wtA A 0 true, up2 A 35 51 s) := by
      unfold opY
      rw [if_pos c]
    rw [e]
    exact id _ s
  · rw [if_pos (ge.mpr (by omega))]
    obtain ⟨y, hy⟩ : ∃ y : Nat, wtA A 0 true = (y : Int) := ⟨(wtA A 0 true).toNat, by omega⟩
    obtain ⟨y1, y2, -⟩ := wt_us P hy
    have L2 := q1.lay
    have S2 : SR bi w C2 A := SR_c S (fun p hp => q2 p (by omega) (by omega))
    have kb := (nd_k S.ok y1).1
    have k0 := (hd_c S2.ok S2.mr y1).1
    rw [hy, iz_n, ckC_0 L2, osm_p (rfC_0_2 L2), ckC_18 L2, kind_c q1.ca y1, cll_some, k0]
    show wp (FC b0) ρ (if nI (nd A y 0) = nI 2 then _ else _) _
    rw [if_e (by omega) (by omega)]
    by_cases c2 : nd A y 0 = 2
    · rw [if_pos c2]
      refine wp_ret ((FC_good b0).1 _) (fun s => ?_)
      have e : opY A s = (-4, up2 A 35 51 s) := by
        unfold opY
        rw [if_neg c, hy, Int.toNat_natCast, if_pos c2]
      rw [e]
      exact id (-4) s
    · rw [if_neg c2]
      have z0 : (0 : Int32) = nI 0 := rfl
      rw [z0]
      have q3 := RO_cl hΦ hok q q2
      refine wp_mono (open_lp (f0 := fu) (A := A) S2.zm.2.2.2.2.2.2.2.2.1 q1 y1 16 0 fu (by omega) (by omega)) (fun v ρ2 _ z s => ?_)
      have e : opY A s = if ohA A = 16 then (-10, up2 A 35 51 s) else ((ohA A : Int), up2 (up2 A 35 51 s) 71 (ohA A) (y + 1)) := by
        unfold opY
        rw [if_neg c, hy, Int.toNat_natCast, if_neg c2]
      have le : ohA A ≤ 16 := (sr_le (fun h => A 71 h == 0) 16 0).2
      have eo : ohA A = sr (fun h => A 71 h == 0) 0 16 := rfl
      rw [e]
      rw [← eo] at z
      by_cases c16 : ohA A = 16
      · obtain ⟨z1, z2⟩ := z.1 c16
        rw [if_pos c16, z1]
        exact RO_q hΦ hok z2 q h0 q2 sC_51 (by rw [up2_j (by decide)]; exact h0)
      · obtain ⟨z1, z2⟩ := z.2 (by omega)
        rw [if_neg c16, z1]
        exact Or.inl ⟨rfl, (show up2 (up2 A 35 51 s) 71 (ohA A) (y + 1) 35 0 = 0 by rw [up2_o (by decide), up2_j (by decide)]; exact h0), bi, sp, w, _, D, z2, RO_hdl hΦ hok PH_ti (RO_scr hΦ hok q3 sC_51), EL_r⟩
theorem entry_c {x y : Int32} (hu : 10000 ≤ fu) (h : CM b0 σ C D) (hR : ST (PH t) bi sp w C D A J) (hP : patOk A) : wp (FC b0) σ (m_X10_entry b0 fu (b0 + 0) x y σ) (fun v τ => ∀ s, QZ (PH t) b0 D J v τ (pubU A s (etY x y))) := by
  have hΦ := PH_good t
  have hok : ∀ w A, PH t w A → okT A := PH_ok
  have hP := patOk_0 (v := 0) hP
  refine pubR_c hΦ hok h hR (fun q h0 => ?_)
  generalize up2 A 35 0 0 = A at *
  have L := h.lay
  have S := q.2.1
  have P := q.2.2.1
  unfold J_X10_entry_65 J_X10_entry_122 J_X10_entry_101
  by_cases c9 : (-1 : Int32) ≤ y
  · have c9' : ¬ y < -1 := fun r => by
      have a := Int32.le_iff_toInt_le.mp c9
      have b := Int32.lt_iff_toInt_lt.mp r
      omega
    have o1 : (1 : Int32) = nI (b2n true) := rfl
    rw [if_pos c9, ckC_0 L, osm_p (rfC_0_5 L), osm_p (rfC_0_7 L), ckC_24 L, o1]
    refine wp_bind (FC_good b0) (walkWhole_c (fu := fu) (w := 0) (by omega) h S.rk.1 (VW_of S P.di) q.1.2.2.2.2.2.2.2.2.2 hP true hu) ?_
    rintro v ρ ⟨e1, C2, q1, q2⟩
    have e1 : v = iz (wtA A 0 true) := e1
    obtain ⟨a1, a2⟩ := wt_bd (w := 0) (fo := true) P.1
    have ge := iz_ge a1 a2
    have id : ∀ (v : Int) s, QZ (PH t) b0 D J (.inl (iz v)) ρ (v, up2 A 35 51 s) := fun v s => RO_q hΦ hok q1 q h0 q2 sC_51 (by rw [up2_j (by decide)]; exact h0)
    subst e1
    by_cases c : wtA A 0 true < 0
    · rw [if_neg (fun q => by have := ge.mp q; omega)]
      refine wp_ret ((FC_good b0).1 _) (fun s => ?_)
      have e : etY x y A s = (wtA A 0 true, up2 A 35 51 s) := by
        unfold etY
        rw [if_neg c9', if_pos c]
      rw [e]
      exact id _ s
    · rw [if_pos (ge.mpr (by omega))]
      obtain ⟨d, hy⟩ : ∃ d : Nat, wtA A 0 true = (d : Int) := ⟨(wtA A 0 true).toNat, by omega⟩
      obtain ⟨y1, y2, -⟩ := wt_us P hy
      have L2 := q1.lay
      have S2 : SR bi w C2 A := SR_c S (fun p hp => q2 p (by omega) (by omega))
      have V2 := VW_of S2 P.di
      have kb := (nd_k S.ok y1).1
      obtain ⟨k0, k1⟩ := hd_c S2.ok S2.mr y1
      have k3 := (k1 y2).2.2
      have ey : ∀ s, etY x y A s = if nd A d 0 ≠ 2 then (-3, up2 A 35 51 s) else if x < 0 ∨ eAll A d ≤ x.toNatClampNeg then (-1, up2 A 35 51 s) else if y < 0 then (((eN A d x.toNatClampNeg : Nat) : Int), up2 A 35 51 s) else if eN A d x.toNatClampNeg = 64 ∨ eL A d x.toNatClampNeg ≤ y.toNatClampNeg then (-1, up2 A 35 51 s) else (((eC A d x.toNatClampNeg y.toNatClampNeg : Nat) : Int), up2 A 35 51 s) := fun s => by
        unfold etY
        rw [if_neg c9', if_neg c, hy, Int.toNat_natCast]
      rw [hy, iz_n, ckC_0 L2, osm_p (rfC_0_2 L2), ckC_18 L2, kind_c q1.ca y1, cll_some, k0]
      show wp (FC b0) ρ (if nI (nd A d 0) = nI 2 then _ else _) _
      rw [if_e (by omega) (by omega)]
      by_cases c2 : nd A d 0 = 2
      · rw [if_pos c2]
        rw [if_neg (by omega)] at k3
        by_cases c0 : x < 0
        · rw [if_pos c0]
          refine wp_ret ((FC_good b0).1 _) (fun s => ?_)
          rw [ey s, if_neg (fun r => r c2), if_pos (Or.inl c0)]
          exact id (-1) s
        rw [if_neg c0]
        obtain ⟨m, hm, rfl⟩ := nI_of c0
        have b1 := (nd_k S.ok y1).2.1
        have z1 := (P.di.1 d y1 c2).1
        have eE : szC C2 d / 32 = eAll A d := by
          rw [k3]
          unfold eAll
          omega
        have eb : eAll A d < 2147483648 := by
          unfold eAll
          omega
        rw [ckC_0 L2, osm_p (rfC_0_2 L2), ckC_18 L2, entries_c q1.ca y1 (by rw [k3]; omega), cll_some, k0, if_pos c2, eE, if_t hm eb]
        by_cases cm : m < eAll A d
        · obtain ⟨l1, l2⟩ := eA_lt S.ok y1 cm
          obtain ⟨v1, v2⟩ := V2.ent d m y1 c2 cm
          have v1 : ocC C2 (ptC C2 d (m / 8) % 2048) (m % 8 * 32 + 28) = if eN A d m = 64 then 0 else eL A d m := v1
          have ell : eL A d m < 29 := (eZ_lt S.ok (r := hasA A d (m / 8) - 1) (k := m % 8) (by omega)).2.1
          have nX : ¬ (nI m < 0 ∨ eAll A d ≤ (nI m).toNatClampNeg) := fun r => by
            rcases r with r | r
            · exact c0 r
            · rw [nI_cl hm] at r
              omega
          rw [if_pos cm, ckC_0 L2, osm_p (rfC_0_2 L2), ckC_18 L2, nameLength_c q1.ca S2.rk.1 y1 l2, cll_some, v1]
          by_cases cy : y < 0
          · have cy' : ¬ (0 : Int32) ≤ y := fun r => by
              have a := Int32.le_iff_toInt_le.mp r
              have b := Int32.lt_iff_toInt_lt.mp cy
              omega
            rw [if_neg cy']
            by_cases c64 : eN A d m = 64
            · rw [if_pos c64, if_pos (show nI 0 = (0 : Int32) from rfl)]
              refine wp_ret ((FC_good b0).1 _) (fun s => ?_)
              rw [ey s, if_neg (fun r => r c2), if_neg nX, if_pos cy, nI_cl hm, c64]
              exact id 64 s
            · have l1' := (P.di.2.1 d m y1 c2 cm c64).2
              rw [if_neg c64]
              show wp (FC b0) ρ (if nI (eL A d m) = nI 0 then _ else _) _
              rw [if_e (by omega) (by omega), if_neg (by omega), ckC_0 L2, osm_p (rfC_0_2 L2), ckC_18 L2, nodeAt_c q1.ca S2.rk.1 y1 l2, cll_some]
              have v3 : ocC C2 (ptC C2 d (m / 8) % 2048) (m % 8 * 32 + 29) = eN A d m := (v2 c64).2.1
              rw [v3]
              refine wp_ret ((FC_good b0).1 _) (fun s => ?_)
              rw [ey s, if_neg (fun r => r c2), if_neg nX, if_pos cy, nI_cl hm, ← iz_n]
              exact id _ s
          · obtain ⟨j, hj, rfl⟩ := nI_of cy
            have cy' : (0 : Int32) ≤ nI j := (nI_leP (a := 0) (b := j) (by omega) hj).mpr (by omega)
            rw [if_pos cy']
            have eyj : ∀ s, etY (nI m) (nI j) A s = if eN A d m = 64 ∨ eL A d m ≤ j then (-1, up2 A 35 51 s) else (((eC A d m j : Nat) : Int), up2 A 35 51 s) := fun s => by
              rw [ey s, if_neg (fun r => r c2), if_neg nX, if_neg cy, nI_cl hm, nI_cl hj]
            by_cases c64 : eN A d m = 64
            · rw [if_pos c64, if_l (by omega) hj, if_pos (by omega)]
              refine wp_ret ((FC_good b0).1 _) (fun s => ?_)
              rw [eyj s, if_pos (Or.inl c64)]
              exact id (-1) s
            · rw [if_neg c64, if_l (by omega) hj]
              by_cases cj : eL A d m ≤ j
              · rw [if_pos cj]
                refine wp_ret ((FC_good b0).1 _) (fun s => ?_)
                rw [eyj s, if_pos (Or.inr cj)]
                exact id (-1) s
              · rw [if_neg cj, ckC_0 L2, osm_p (rfC_0_2 L2), ckC_18 L2, nameOctet_c q1.ca S2.rk.1 y1 l2 (by omega), cll_some]
                have v4 : ocC C2 (ptC C2 d (m / 8) % 2048) (m % 8 * 32 + j) = eC A d m j := (v2 c64).2.2 j (by omega)
                rw [v4]
                refine wp_ret ((FC_good b0).1 _) (fun s => ?_)
                rw [eyj s, if_neg (fun r => by rcases r with r | r; exact c64 r; exact cj r), ← iz_n]
                exact id _ s
        · rw [if_neg cm]
          refine wp_ret ((FC_good b0).1 _) (fun s => ?_)
          rw [ey s, if_neg (fun r => r c2), if_pos (Or.inr (by rw [nI_cl hm]; omega))]
          exact id (-1) s
      · rw [if_neg c2]
        refine wp_ret ((FC_good b0).1 _) (fun s => ?_)
        rw [ey s, if_pos c2]
        exact id (-3) s
  · have c9' : y < -1 := by
      rw [Int32.lt_iff_toInt_lt]
      exact Int.not_le.mp (fun z => c9 (Int32.le_iff_toInt_le.mpr z))
    rw [if_neg c9]
    refine wp_ret ((FC_good b0).1 _) (fun s => ?_)
    have e : etY x y A s = (-9, A) := by
      unfold etY
      rw [if_pos c9']
    rw [e]
    exact RO_q (v := -9) hΦ hok h q h0 (fun _ _ _ => rfl) sC_r h0
end OPN
