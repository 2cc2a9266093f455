/-! ===== PURE: the reference's public methods: link ===== -/
section LN
variable {b0 fu : Nat} {σ τ : tM} {A B U : tS} {N N' K K' : Nat} {J : tJ}
theorem nd_set {n w v : Nat} (A : tS) : nd (setN A n w v) n w = v := by
  unfold nd setN
  rw [up2_o (by decide), up2_s]
theorem ln_k {x d : Nat} (h : RM b0 J σ A N) (hN : N + 100 < 65536) (hx : x < 64) (hD : dirOk A d) (hr : A 35 7 ≤ 2000) (h53 : A 35 53 ≤ 120) (hc : ∀ i, i < A 35 53 → A 67 i < 128) (ho : A 35 53 ≤ 28 → nd A x 2 ≠ 200 → lkA A d = false → aeOk A d ∧ nd (addA A d (A 67) (A 35 53) x) x 2 < 255) (hu : 10000 ≤ fu) :
    wp (FR b0) σ (if fz A d < 0 then ckO b0 σ (b0 + 35) 11 (if tI σ (b0 + 35) 53 ≤ 28 then cll (m_X12_node b0 fu (b0 + 35) (nI x) 2 σ) (fun v35 ρ36 => if v35 = 200 then some (-10, ρ36) else ckO b0 ρ36 (b0 + 35) 11 (cll (m_X12_lacks b0 fu (b0 + 35) (nI d) ρ36) (fun v41 ρ42 => if v41 = 0 then ckO b0 ρ42 (b0 + 35) 11 (osm (tA ρ42 (b0 + 35) 52) (fun a47 => cll (m_X12_addEntry b0 fu (b0 + 35) (nI d) a47 (tI ρ42 (b0 + 35) 53) (nI x) ρ42) (fun _ ρ50 => ckO b0 ρ50 (b0 + 35) 11 (cll (m_X12_node b0 fu (b0 + 35) (nI x) 2 ρ50) (fun v54 ρ55 => ckO b0 ρ55 (b0 + 35) 11 (cll (m_X12_putNode b0 fu (b0 + 35) (nI x) 2 (v54 + 1) ρ55) (fun _ ρ60 => ckO b0 ρ60 (b0 + 35) 11 (cll (m_X12_node b0 fu (b0 + 35) (nI x) 2 ρ60) (fun v64 ρ65 => some (v64, ρ65)))))))))) else some (-6, ρ42)))) else some (-7, σ)) else some (-2, σ)) (fun v τ => v = iz (lnG x A d).1 ∧ RM b0 J τ (lnG x A d).2 (N + 52)) := by
  have L := h.ra.lay
  obtain ⟨z1, z2⟩ := fz_ge hD
  unfold lnG
  by_cases c : kf A d < eAll A d
  · rw [if_neg (Int32.not_lt.mpr (z1.mpr c)), if_pos c]
    exact wp_ret ((FR_good b0).1 _) ⟨rfl, RM_le h (by omega)⟩
  · rw [if_pos (Int32.not_le.mp (fun q => c (z1.mp q))), if_neg c, ckR_35 L, rf_53 h.ra]
    show wp (FR b0) σ (if nI (A 35 53) ≤ nI 28 then cll (m_X12_node b0 fu (b0 + 35) (nI x) (nI 2) σ) (fun v35 ρ36 => if v35 = nI 200 then _ else _) else _) _
    rw [if_l (by omega) (by omega)]
    by_cases c2 : 28 < A 35 53
    · rw [if_neg (by omega), if_pos c2]
      exact wp_ret ((FR_good b0).1 _) ⟨rfl, RM_le h (by omega)⟩
    · rw [if_pos (by omega), if_neg c2, node_nd h.ra hx (by omega), cll_some, if_e (nd_bd h.ra _ _) (by omega)]
      by_cases c3 : nd A x 2 = 200
      · rw [if_pos c3, if_pos c3]
        exact wp_ret ((FR_good b0).1 _) ⟨rfl, RM_le h (by omega)⟩
      · rw [if_neg c3, if_neg c3, ckR_35 L, lacks_eq h.ra h.ok hD hr hu, cll_some]
        cases q : lkA A d with
        | true =>
          rw [if_neg (show ¬ nI (b2n true) = 0 by decide), if_pos rfl]
          exact wp_ret ((FR_good b0).1 _) ⟨rfl, RM_le h (by omega)⟩
        | false =>
          obtain ⟨o1, o2⟩ := ho (by omega) c3 q
          rw [if_pos (show nI (b2n false) = 0 by decide), if_neg (show ¬ false = true by decide), ckR_35 L, osm_p (rfR_35_52 L), rf_53 h.ra]
          refine wp_bind (FR_good b0) (aeOk_wp (fu := fu) h (by omega) o1 (by omega) (show x < 65 by omega) hc hu) ?_
          intro _ ρ h2
          rw [ckR_35 h2.ra.lay]
          show wp (FR b0) ρ (cll (m_X12_node b0 fu (b0 + 35) (nI x) (nI 2) ρ) _) _
          rw [node_nd h2.ra hx (by omega), cll_some, ckR_35 h2.ra.lay]
          generalize addA A d (A 67) (A 35 53) x = C at *
          have e1 : nI (nd C x 2) + 1 = nI (nd C x 2 + 1) := nI_add _ 1
          rw [e1]
          refine wp_bind (FR_good b0) (putNode_wp (fu := fu) (w := 2) h2 (by omega) hx (by omega) (show nd C x 2 + 1 < 256 by omega)) ?_
          intro _ ρ2 h3
          rw [ckR_35 h3.ra.lay]
          show wp (FR b0) ρ2 (cll (m_X12_node b0 fu (b0 + 35) (nI x) (nI 2) ρ2) _) _
          rw [node_nd h3.ra hx (by omega), cll_some, nd_set]
          exact wp_ret ((FR_good b0).1 _) ⟨(iz_n _).symm, RM_le h3 (by omega)⟩
theorem link_wp (h : RM b0 J σ A N) (hN : N + 100 < 65536) (hl : A 35 6 ≤ 4096) (ho : uaOk (up2 A 35 0 0) J) (hu : 1200000 ≤ fu) (hb : ∀ un p, un ≤ N → uaX (up2 A 35 0 0) J un = .inl p → bdOk p.1 ∧ lnOk p.1) :
    wp (FR b0) σ (m_X12_link b0 fu (b0 + 35) σ) (PQ b0 N (N + 52) A J lnY) := by
  refine wp_grw (FR_good b0) (pub2_wp h hl ho hu (by omega) (fun un p ρ hun e q => ?_))
  obtain ⟨hb, hk⟩ := hb un p hun e
  generalize p.1 = A at *
  refine wp_bind (FR_good b0) (walkTo_wp (fu := fu) (w := 1) q (by omega) hb.1 hb.2.1 (by omega) false) ?_
  intro v ρ2 ⟨e1, s, h2⟩
  have e1 : v = iz (wtA A 1 false) := e1
  obtain ⟨a1, a2⟩ := wt_bd (w := 1) (fo := false) q.ok
  have ge := iz_ge a1 a2
  have g36 := on36 (A := up2 A 35 51 s) (B := A) (up2_rown (by decide))
  have ne : ∀ o j, ¬ (o = 35 ∧ j = 51) → up2 A 35 51 s o j = A o j := fun o j hj => by
    by_cases e : o = 35
    · exact up2_j (fun q => hj ⟨e, q⟩)
    · exact up2_o e
  subst e1
  by_cases c : wtA A 1 false < 0
  · have eY : lnY A s = (wtA A 1 false, up2 A 35 51 s) := if_pos c
    rw [if_neg (fun q => by have := ge.mp q; omega)]
    exact wp_ret ((FR_good b0).1 _) ⟨s, by rw [eY], by rw [eY]; exact RM_le h2 (by omega)⟩
  · rw [if_pos (ge.mpr (by omega))]
    obtain ⟨x, hx⟩ : ∃ x : Nat, wtA A 1 false = (x : Int) := ⟨(wtA A 1 false).toNat, by omega⟩
    have x64 : x < 64 := by omega
    have L2 := h2.ra.lay
    rw [hx, iz_n, ckR_35 L2]
    show wp (FR b0) ρ2 (cll (m_X12_node b0 fu (b0 + 35) (nI x) (nI 0) ρ2) (fun v4 ρ5 => if v4 = nI 2 then _ else _)) _
    rw [node_nd h2.ra x64 (by omega), cll_some, if_e (nd_bd h2.ra _ _) (by omega), g36.1]
    by_cases c2 : nd A x 0 = 2
    · have eY : lnY A s = (-4, up2 A 35 51 s) := by unfold lnY; rw [if_neg c, hx, Int.toNat_natCast, if_pos c2]
      rw [if_pos c2]
      exact wp_ret ((FR_good b0).1 _) ⟨s, by rw [eY]; rfl, by rw [eY]; exact RM_le h2 (by omega)⟩
    · rw [if_neg c2, ckR_35 L2]
      have hb2 : patOk (up2 A 35 51 s) ∧ dirsOk (up2 A 35 51 s) := by
        refine ⟨fun v hv => ?_, fun d hd q => ?_⟩
        · rw [up2_rown (by decide), up2_rown (by omega)]
          exact hb.1 v hv
        · rw [g36.1] at q
          have := hb.2.1 d hd q
          unfold dirOk at this ⊢
          rw [g36.1, g36.2.2.2.1]
          exact this
      refine wp_bind (FR_good b0) (walkAhead_wp (fu := fu) (w := 0) h2 (by omega) hb2.1 hb2.2 (by omega)) ?_
      intro v2 ρ3 ⟨e3, s2, h3⟩
      have h3 : RM b0 p.2 ρ3 (wa1 (up2 A 35 51 s) 0 s2) N := h3
      rw [wa1_cong (by omega) ne] at h3
      rw [(wa_cong (by omega) ne).1] at e3
      subst e3
      obtain ⟨u1, u2, u3⟩ := wa_bd (w := 0) q.ok
      have gw := iz_ge u1 u2
      have L3 := h3.ra.lay
      by_cases c3 : waA A 0 < 0
      · have eY : lnY A s2 = (waA A 0, wa1 A 0 s2) := by unfold lnY; rw [if_neg c, hx, Int.toNat_natCast, if_neg c2, if_pos c3]
        rw [if_neg (fun q => by have := gw.mp q; omega)]
        exact wp_ret ((FR_good b0).1 _) ⟨s2, by rw [eY], by rw [eY]; exact RM_le h3 (by omega)⟩
      · rw [if_pos (gw.mpr (by omega))]
        have u3 := u3 (by omega)
        obtain ⟨d, hd⟩ : ∃ d : Nat, waA A 0 = (d : Int) := ⟨(waA A 0).toNat, by omega⟩
        have d64 : d < 64 := by omega
        rw [hd, Int.toNat_natCast] at u3
        have eY : lnY A s2 = lnG x (wa1 A 0 s2) d := by unfold lnY; rw [if_neg c, hx, Int.toNat_natCast, if_neg c2, if_neg c3, hd, Int.toNat_natCast]
        have b3 := bd_wa1 (w := 0) (s := s2) (by omega) hb
        have w36 := on36 (wa1_36 (w := 0) (s := s2) A)
        have hDd : dirOk (wa1 A 0 s2) d := b3.2.1 d d64 (by rw [w36.1]; exact u3)
        have e53 := wa1_53 (w := 0) (s := s2) A
        have ll := ls_le A 0
        have l120 := (hb.1 0 (by omega)).1
        have hc : ∀ i, i < lsN A 0 → wa1 A 0 s2 67 i < 128 := fun i hi => wa1_128 hb.1 (by omega) hi
        have kk := ln_k (fu := fu) h3 hN x64 hDd b3.2.2 (by rw [e53]; omega) (by rw [e53]; exact hc) (fun r0 r1 r2 => hk s2 x d hx hd c2 (by rw [← e53]; exact r0) (by rw [← w36.1]; exact r1) r2) (by omega)
        rw [hd, iz_n, ckR_35 L3, osm_p (rfR_35_52 L3), rf_53 h3.ra, e53]
        show wp (FR b0) ρ3 (cll (m_X12_find b0 fu (b0 + 35) (nI d) (b0 + 67) (nI 0) (nI (lsN A 0)) ρ3) _) _
        rw [find_kf h3 hDd e53 (by omega) hc (by omega), cll_some]
        obtain ⟨v, τ, x1, x2, x3, x4⟩ := kk
        exact ⟨v, τ, x1, x2, s2, by rw [eY]; exact x3, by rw [eY]; exact x4⟩
end LN
