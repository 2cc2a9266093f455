/-! ===== PURE: rename's parts, in both ===== -/
def rm8 (A : tS) (e : Nat) (T : Option Nat) : Int := match T with | none => lk0 A e | some _ => 0
section RNM
variable {b0 fu : Nat} {σ τ ρ : tM} {bi sp : Nat → Nat} {w : Nat → Nat × Nat} {C C' X : tS} {D D' : tD} {A B E : tS} {J J' : tJ} {K n m k r t d l v un e o st x : Nat}
theorem cnE_lt (S : SR bi w C B) (P : PH t w B) (n1 : n < 64) (c2 : nd B n 0 = 2) : cnE C n < 2147483648 := by
  have e := deS_eq (v := 6) S P.di n1 (by omega) (by omega)
  have e1 : deS C n 6 = cnE C n := rfl
  have e2 : tdA B n 6 = td6 B n := rfl
  rw [e1, e2] at e
  rw [e]
  unfold td6
  rw [if_pos c2]
  have := cn_le (fun k => eN B n k != 64) (eAll B n) 0
  have b1 := (nd_k S.ok n1).2.1
  have : eAll B n ≤ 8512 := by
    unfold eAll
    omega
  omega
/-- what stands at the end of refuseMove -/
theorem rm83_c (hu : 10000 ≤ fu) (h : CA b0 σ C) (S : SR bi w C A) (P : PH t w A) (ht : t < 1000) (he : e < 64) (he2 : nd A e 0 = 2) (T : Option Nat) (hT : ∀ x, T = some x → x < 64) : J_X10_refuseMove_83 b0 fu (b0 + 0) (nI e) (tz T) σ = some (iz (rm8 A e T), σ) := by
  have L := h.lay
  unfold J_X10_refuseMove_83 J_X10_refuseMove_103 J_X10_refuseMove_104
  cases T with
  | none =>
    obtain ⟨e1, e2, e3, e4⟩ := lk_eq S P ht he he2
    obtain ⟨f1, f2⟩ := ff_t P he he2 ht
    rw [if_neg (show ¬ (0 : Int32) ≤ tz none by decide), ckC_0 L, osm_p (rfC_0_2 L), ckC_18 L, hasPlaceForEntry_c h S.rk.1 he (sz_le S he) (by rw [e1]; omega) hu, cll_some, e4]
    show (if nI (b2n (!lkA A e)) = nI 0 then _ else _) = some (iz (lk0 A e), σ)
    unfold lk0
    cases hk : lkA A e with
    | true =>
      rw [if_pos (show nI (b2n (!true)) = nI 0 from rfl)]
      rfl
    | false =>
      rw [if_neg (show ¬ nI (b2n (!false)) = nI 0 by decide)]
      rfl
  | some x =>
    have := hT x rfl
    show (if (0 : Int32) ≤ nI x then _ else _) = some (iz 0, σ)
    rw [if_pos (show (0 : Int32) ≤ nI x from iz_neg (by omega))]
    rfl
theorem refuseMove_c (hu : 10000 ≤ fu) (h : CA b0 σ C) (S : SR bi w C A) (P : PH t w A) (ht : t < 1000) (hn : n < 64) (he : e < 64) (he2 : nd A e 0 = 2) (T : Option Nat) (hT : ∀ x, T = some x → x < 64) : m_X10_refuseMove b0 fu (b0 + 0) (nI n) (nI e) (tz T) σ = some (iz (rnM A n e T), σ) := by
  have L := h.lay
  have k0 := (hd_c S.ok S.mr hn).1
  have kb := (nd_k S.ok hn).1
  have r83 := rm83_c (fu := fu) hu h S P ht he he2 T hT
  unfold m_X10_refuseMove
  rw [ckC_0 L, osm_p (rfC_0_2 L), ckC_18 L, kind_c h hn, cll_some, k0]
  show grw σ (if nI (nd A n 0) = nI 2 then _ else _) = _
  rw [if_e (by omega) (by omega)]
  by_cases c2 : nd A n 0 = 2
  · rw [if_pos c2, ckC_0 L, osm_p (rfC_0_2 L), ckC_18 L, isWithin_c h (fun m hm => pr_lt S hm) he hn (by omega), cll_some, iw_eq S P.di 64 e he he2]
    cases cb : bwA A n 64 e with
    | true =>
      have er : rnM A n e T = -9 := by
        cases T with
        | none =>
          show mrN A n e = -9
          unfold mrN
          rw [if_pos c2, cb]
          rfl
        | some x =>
          show mrS A n e x = -9
          unfold mrS
          rw [if_pos c2, cb]
          rfl
      rw [if_neg (show ¬ nI (b2n true) = (0 : Int32) by decide), er]
      exact grw_same
    | false =>
      rw [if_pos (show nI (b2n false) = (0 : Int32) by decide)]
      unfold J_X10_refuseMove_46
      cases T with
      | none =>
        have er : rnM A n e none = lk0 A e := by
          show mrN A n e = _
          unfold mrN
          rw [if_pos c2, cb]
          rfl
        rw [if_pos (show tz none < (0 : Int32) by decide), if_pos (show tz none < (0 : Int32) by decide), r83, er]
        exact grw_same
      | some x =>
        have hx := hT x rfl
        have ki := (hd_c S.ok S.mr hx).1
        have kx := (nd_k S.ok hx).1
        have er : rnM A n e (some x) = if nd A x 0 = 2 then (if 0 < nd A x 1 then -5 else 0) else -3 := by
          show mrS A n e x = _
          unfold mrS
          rw [if_pos c2, cb]
          rfl
        rw [er, if_neg (show ¬ tz (some x) < (0 : Int32) from neg_nI (by omega)), ckC_0 L, osm_p (rfC_0_2 L), ckC_18 L]
        show grw σ (cll (m_X8_kind b0 fu (b0 + 18) (nI x) σ) _) = _
        rw [kind_c h hx, cll_some, ki]
        show grw σ (if nI (nd A x 0) = nI 2 then _ else _) = _
        rw [if_e (by omega) (by omega)]
        by_cases cx : nd A x 0 = 2
        · have cd := cn_dir S P hx cx
          rw [if_pos cx, if_pos cx, if_neg (show ¬ tz (some x) < (0 : Int32) from neg_nI (by omega)), ckC_0 L, osm_p (rfC_0_2 L), ckC_18 L]
          show grw σ (cll (m_X8_countEntries b0 fu (b0 + 18) (nI x) σ) _) = _
          rw [countEntries_c h S.rk.1 hx (sz_le S hx) hu, cll_some]
          show grw σ (if nI (cnE C x) = nI 0 then _ else _) = _
          rw [if_e (cnE_lt S P hx cx) (by omega)]
          by_cases c0 : cnE C x = 0
          · have := cd.mp c0
            rw [if_pos c0, if_neg (by omega), r83]
            exact grw_same
          · have : nd A x 1 ≠ 0 := fun y => c0 (cd.mpr y)
            rw [if_neg c0, if_pos (by omega)]
            exact grw_same
        · rw [if_neg cx, if_neg cx]
          exact grw_same
  · rw [if_neg c2]
    cases T with
    | none =>
      have er : rnM A n e none = lk0 A e := by
        show mrN A n e = _
        unfold mrN
        rw [if_neg c2]
      rw [if_pos (show tz none < (0 : Int32) by decide), r83, er]
      exact grw_same
    | some x =>
      have hx := hT x rfl
      have ki := (hd_c S.ok S.mr hx).1
      have kx := (nd_k S.ok hx).1
      have er : rnM A n e (some x) = if nd A x 0 = 2 then -4 else 0 := by
        show mrS A n e x = _
        unfold mrS
        rw [if_neg c2]
      rw [er, if_neg (show ¬ tz (some x) < (0 : Int32) from neg_nI (by omega)), ckC_0 L, osm_p (rfC_0_2 L), ckC_18 L]
      show grw σ (cll (m_X8_kind b0 fu (b0 + 18) (nI x) σ) _) = _
      rw [kind_c h hx, cll_some, ki]
      show grw σ (if nI (nd A x 0) = nI 2 then _ else _) = _
      rw [if_e (by omega) (by omega)]
      by_cases cx : nd A x 0 = 2
      · rw [if_pos cx, if_pos cx]
        exact grw_same
      · rw [if_neg cx, if_neg cx, r83]
        exact grw_same
theorem finishMove_c (hu : 10000 ≤ fu) (h : CM b0 σ C D) (S : SR bi w C A) (g3 : TF A) (g4 : DI w A) (hn : n < 64) (hn0 : nd A n 0 ≠ 0) (he : e < 64) (he2 : nd A e 0 = 2) (hd : d < 64) (h2 : nd A d 0 = 2) (hk : k < eAll (rnP A n e) d) : wp (FC b0) σ (m_X10_finishMove b0 fu (b0 + 0) (nI n) (nI e) (nI d) (nI k) σ) (fun _ τ => CM b0 τ (rmEn (paC C n e) d k) D) := by
  have L := h.lay
  obtain ⟨r1, r2, r3, r4, r5, r6⟩ := rnP_fx S g3 g4 hn hn0 he he2
  have k0 := (hd_c S.ok S.mr hn).1
  have kb := (nd_k S.ok hn).1
  have kd : nd (rnP A n e) d 0 = 2 := by
    rw [r6 d 0 (by omega), if_neg (by omega)]
    exact h2
  obtain ⟨l1, l2⟩ := eA_lt r1.ok hd hk
  obtain ⟨r, hr⟩ : ∃ r, hasA (rnP A n e) d (k / 8) = r + 1 := ⟨hasA (rnP A n e) d (k / 8) - 1, by have := (r3.1 d hd kd).2.2 _ l1; omega⟩
  have clr := (SR_clr r1 hd kd l2 hr).1
  have fin : ∀ ρ, CM b0 ρ (paC C n e) D → wp (FC b0) ρ (J_X10_finishMove_21 b0 fu (b0 + 0) (nI d) (nI k) ρ) (fun _ τ => CM b0 τ (rmEn (paC C n e) d k) D) := by
    intro ρ c
    have L := c.lay
    unfold J_X10_finishMove_21
    rw [ckC_0 L, osm_p (rfC_0_2 L), ckC_18 L]
    refine wp_bind (FC_good b0) (removeEntry_c (fu := fu) c r1.rk hd l2 (sz_le clr hd) (by omega)) ?_
    intro _ ρ2 c3
    exact wp_ret ((FC_good b0).1 _) c3
  refine wp_grw (FC_good b0) ?_
  rw [ckC_0 L, osm_p (rfC_0_2 L), ckC_18 L, kind_c h.ca hn, cll_some, k0]
  show wp (FC b0) σ (if nI (nd A n 0) = nI 2 then _ else _) _
  rw [if_e (by omega) (by omega)]
  by_cases c : nd A n 0 = 2
  · rw [if_pos c, ckC_0 L, osm_p (rfC_0_2 L), ckC_18 L]
    have sl := sz_le S hn
    refine wp_bind (FC_good b0) (setParent_c (fu := fu) h S.rk.1 hn (by omega) (show e < 256 by omega)) ?_
    intro _ ρ c1
    refine fin ρ ?_
    unfold paC
    rw [if_pos (k0.trans c)]
    exact c1
  · rw [if_neg c]
    refine fin σ ?_
    unfold paC
    rw [if_neg (fun y => c (k0.symm.trans y))]
    exact h
/-- a directory that loses its name -/
theorem loseDir_c (hu : 10000 ≤ fu) (h : CM b0 σ C D) (S : SR bi w C A) (hx : x < 64) (hk : nd A x 0 = 2) : wp (FC b0) σ (m_X10_loseName b0 fu (b0 + 0) (nI x) σ) (fun _ τ => CM b0 τ (disC C x) D) := by
  have L := h.lay
  have k0 := (hd_c S.ok S.mr hx).1
  refine wp_grw (FC_good b0) ?_
  rw [ckC_0 L, osm_p (rfC_0_2 L), ckC_18 L, kind_c h.ca hx, cll_some, k0, hk, if_pos (show nI 2 = (2 : Int32) from rfl), ckC_0 L, osm_p (rfC_0_2 L), ckC_18 L]
  refine wp_bind (FC_good b0) (discard_c (fu := fu) h S.rk hx (sz_le S hx) (by omega)) ?_
  intro _ ρ2 c2
  exact wp_ret ((FC_good b0).1 _) c2
theorem KC_pa : KC C (paC C n e) := by
  unfold paC
  split
  · exact KC_sh
  · exact KC_r
end RNM
