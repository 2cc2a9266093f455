/-! ===== PURE: the class's constructor: it begins ===== -/
def D00 : tD := ((fun _ _ => none), (fun _ _ => 0), (fun _ => 0), 0, (fun _ _ => 0), (fun _ _ _ => 0), 0, 0, 0, 0)
theorem rfC_0_0z {b0 : Nat} {σ : tM} (h : LayCz b0 σ) : tA σ (b0 + 0) 0 = some (b0 + 1) := h.2.2.2.2.2.2.2.2.2.2.2.2.2.2.2.2.2.2.2.2.2.2.2.2.2.2.2.2.2.2.2.2.2.2.1
theorem rfC_0_1z {b0 : Nat} {σ : tM} (h : LayCz b0 σ) : tA σ (b0 + 0) 1 = some (b0 + 10) := h.2.2.2.2.2.2.2.2.2.2.2.2.2.2.2.2.2.2.2.2.2.2.2.2.2.2.2.2.2.2.2.2.2.2.2.1
theorem rfC_0_2z {b0 : Nat} {σ : tM} (h : LayCz b0 σ) : tA σ (b0 + 0) 2 = some (b0 + 18) := h.2.2.2.2.2.2.2.2.2.2.2.2.2.2.2.2.2.2.2.2.2.2.2.2.2.2.2.2.2.2.2.2.2.2.2.2.1
theorem rfC_0_3z {b0 : Nat} {σ : tM} (h : LayCz b0 σ) : tA σ (b0 + 0) 3 = some (b0 + 20) := h.2.2.2.2.2.2.2.2.2.2.2.2.2.2.2.2.2.2.2.2.2.2.2.2.2.2.2.2.2.2.2.2.2.2.2.2.2.1
theorem rfC_20_3z {b0 : Nat} {σ : tM} (h : LayCz b0 σ) : tA σ (b0 + 20) 3 = some (b0 + 21) := h.2.2.2.2.2.2.2.2.2.2.2.2.2.2.2.2.2.2.2.2.2.2.2.2.2.2.2.2.2.2.2.2.2.2.2.2.2.2.2.2.2.2.2.2.2.2.2.2.2.2.2.2.2.2.2.2.2.2.2.2.2.2.2.2.2.1
section CIB
variable {b0 fu u : Nat} {τ0 σ τ ρ : tM} {C C2 E : tS} {D : tD}
theorem lay_z (h : LayCz b0 σ) (hn : tn σ ≤ tn τ) (hk : ∀ o, o < 33 → tk τ (b0 + o) = tk σ (b0 + o)) (hA : ∀ o, o < 33 → o ≠ 21 → tA τ (b0 + o) = tA σ (b0 + o)) : LayCz b0 τ := by
  unfold LayCz at h ⊢
  obtain ⟨w0, w1⟩ := h
  refine ⟨Nat.le_trans w0 hn, ?_⟩
  rw [hk 0 (by omega), hk 1 (by omega), hk 2 (by omega), hk 3 (by omega), hk 4 (by omega), hk 5 (by omega), hk 6 (by omega), hk 7 (by omega), hk 8 (by omega), hk 9 (by omega), hk 10 (by omega), hk 11 (by omega), hk 12 (by omega), hk 13 (by omega), hk 14 (by omega), hk 15 (by omega), hk 16 (by omega), hk 17 (by omega), hk 18 (by omega), hk 19 (by omega), hk 20 (by omega), hk 21 (by omega), hk 22 (by omega), hk 23 (by omega), hk 24 (by omega), hk 25 (by omega), hk 26 (by omega), hk 27 (by omega), hk 28 (by omega), hk 29 (by omega), hk 30 (by omega), hk 31 (by omega), hk 32 (by omega),
    hA 0 (by omega) (by omega), hA 1 (by omega) (by omega), hA 10 (by omega) (by omega), hA 18 (by omega) (by omega), hA 20 (by omega) (by omega), hA 23 (by omega) (by omega), hA 24 (by omega) (by omega), hA 26 (by omega) (by omega), hA 28 (by omega) (by omega), hA 30 (by omega) (by omega)]
  exact w1
theorem CA_z (h : CAz b0 σ C) (hn : tn σ ≤ tn τ) (hk : ∀ o, o < 33 → tk τ (b0 + o) = tk σ (b0 + o)) (hA : ∀ o, o < 33 → o ≠ 21 → tA τ (b0 + o) = tA σ (b0 + o)) (hI : ∀ o, o < 33 → tI τ (b0 + o) = tI σ (b0 + o)) (hL : tL τ (b0 + 11) = tL σ (b0 + 11)) : CAz b0 τ C := ⟨lay_z h.1 hn hk hA, fun o j e => by
  have l := isC_lt e
  rw [hI o (by omega)]
  exact h.2.1 o j e, fun j => by rw [hL]; exact h.2.2.1 j, h.2.2.2⟩
/-- a row is made -/
def nw3 (b0 : Nat) (ρ : tM) : tM := sA (sN (sN ρ (b0 + 33) (.inl 4) 2) (b0 + 34) (.inr (3, 32)) 32) (b0 + 33) 0 (some (b0 + 34))
theorem nw3_f (h33 : tn ρ = 33) : tn (nw3 b0 ρ) = 35 ∧ tu (nw3 b0 ρ) = tu ρ + 34 ∧ (∀ a, a ≠ b0 + 33 → a ≠ b0 + 34 → same ρ (nw3 b0 ρ) a) ∧ tk (nw3 b0 ρ) (b0 + 33) = .inl 4 ∧ tk (nw3 b0 ρ) (b0 + 34) = .inr (3, 32) ∧ (∀ j, tA (nw3 b0 ρ) (b0 + 33) j = if j = 0 then some (b0 + 34) else none) ∧ ∀ j, tL (nw3 b0 ρ) (b0 + 34) j = 0 := by
  unfold nw3
  refine ⟨by rw [rd_nA, rd_nN, rd_nN, h33], by show tu ρ + 2 + 32 = _; omega, fun a h1 h2 => ?_, ?_, ?_, fun j => ?_, fun j => ?_⟩
  · exact same_t (same_sN h1) (same_t (same_sN h2) (same_sA h1))
  · rw [rd_kA, rd_kN, if_neg (by omega), rd_kN, if_pos rfl]
  · rw [rd_kA, rd_kN, if_pos rfl]
  · rw [rd_AA, if_pos rfl]
    by_cases c : j = 0
    · rw [if_pos c, if_pos c]
    · rw [if_neg c, if_neg c, rd_AN, if_neg (by omega), rd_AN, if_pos rfl]
  · rw [rd_LA, rd_LN, if_pos rfl]
theorem take_z (L : LayCz b0 ρ) (h33 : tn ρ = 33) (h7 : tA ρ (b0 + 20) 7 = none) : m_X1_takeRow b0 fu (b0 + 20) ρ = some (some (b0 + 33), nw3 b0 ρ) := by
  obtain ⟨n1, n2, -⟩ := nw3_f (b0 := b0) h33
  have m4 : m_X4_init b0 fu (b0 + 33) (sN ρ (b0 + 33) (.inl 4) 2) = some ((), nw3 b0 ρ) := by
    unfold m_X4_init
    have e1 : tn (sN ρ (b0 + 33) (.inl 4) 2) = 34 := by rw [rd_nN, h33]
    have k1 : tk (sN (sN ρ (b0 + 33) (.inl 4) 2) (b0 + 34) (.inr (3, 32)) 32) (b0 + 33) = .inl 4 := by
      rw [rd_kN, if_neg (by omega), rd_kN, if_pos rfl]
    rw [ltb_def, e1, show (32 : Int32).toNatClampNeg = 32 from rfl, ckO_p k1 ⟨by omega, by rw [rd_nN, e1]; omega⟩]
    exact grw_p rfl (by rw [e1]; show 34 ≤ tn (nw3 b0 ρ); rw [n1]; omega) (by show tu ρ + 2 ≤ tu (nw3 b0 ρ); rw [n2]; omega)
  unfold m_X1_takeRow
  rw [ckC_20z L, h7, omt_none, ltb_def, h33, m4, cll_some]
  exact grw_p rfl (by rw [n1, h33]; omega) (by rw [n2]; omega)
/-- its words are the root's -/
def sv3 (b0 : Nat) (ρ : tM) : tM := sLr ρ (b0 + 34) (va_cpy (tL ρ (b0 + 11)) (tL ρ (b0 + 34)) 64 0 32)
theorem save_z (L : LayCz b0 ρ) (h35 : tn ρ = 35) (k1 : tk ρ (b0 + 33) = .inl 4) (k2 : tk ρ (b0 + 34) = .inr (3, 32)) (a1 : tA ρ (b0 + 33) 0 = some (b0 + 34)) : m_X5_save b0 fu (b0 + 10) 2 (some (b0 + 33)) ρ = some ((), sv3 b0 ρ) := by
  unfold m_X5_save J_X5_save_29
  have k11 : tk ρ (b0 + 11) = .inr (3, 65536) := L.2.2.2.2.2.2.2.2.2.2.2.2.1
  have e32 : (2 : Int32) * (32 : Int32) = nI 64 := by decide
  rw [e32]
  show grw ρ (if nI 2 < nI 0 then _ else if nI 2034 ≤ nI 2 then _ else _) = _
  rw [if_t (by omega) (by omega), if_neg (by omega), if_l (by omega) (by omega), if_neg (by omega), ckC_10z L, osm_p (rfC_10_0z L), omt_some, ckO_p k1 ⟨by omega, by rw [h35]; omega⟩, osm_p a1, ckR_p k11 ⟨by omega, by rw [h35]; omega⟩, ckR_p k2 ⟨by omega, by rw [h35]; omega⟩]
  have ckc : ∀ (k : Option (Unit × tM)), ckC (nI 64) 0 32 65536 32 k = k := fun k => by
    unfold ckC
    rw [nI_cl (by omega), show (0 : Int32).toNatClampNeg = 0 from rfl, show (32 : Int32).toNatClampNeg = 32 from rfl, if_pos ⟨⟨nI_pos (by omega), by decide, by decide⟩, by omega, by omega⟩]
  rw [ckc, nI_cl (by omega), show (0 : Int32).toNatClampNeg = 0 from rfl, show (32 : Int32).toNatClampNeg = 32 from rfl]
  exact grw_p rfl (Nat.le_refl _) (Nat.le_refl _)
theorem sv3_f : tn (sv3 b0 ρ) = tn ρ ∧ tu (sv3 b0 ρ) = tu ρ ∧ tk (sv3 b0 ρ) = tk ρ ∧ tI (sv3 b0 ρ) = tI ρ ∧ tA (sv3 b0 ρ) = tA ρ ∧ (∀ a, a ≠ b0 + 34 → tL (sv3 b0 ρ) a = tL ρ a) ∧ ∀ j, tL (sv3 b0 ρ) (b0 + 34) j = if j < 32 then tL ρ (b0 + 11) (64 + j) else tL ρ (b0 + 34) j := by
  unfold sv3
  refine ⟨rfl, rfl, rfl, rfl, rfl, fun a ha => ?_, fun j => ?_⟩
  · show va_up (tL ρ) (b0 + 34) _ a = tL ρ a
    unfold va_up
    rw [if_neg ha]
  · show va_up (tL ρ) (b0 + 34) _ (b0 + 34) j = _
    unfold va_up
    rw [if_pos rfl]
    by_cases g : j < 32
    · rw [pk_cpy_in (by omega) (by omega), if_pos g, Nat.sub_zero]
    · rw [pk_cpy_out (by omega), if_neg g]
theorem base_z (L : LayCz b0 ρ) (h35 : tn ρ = 35) (k1 : tk ρ (b0 + 33) = .inl 4) (e2 : tA ρ (b0 + 21) 2 = none) : m_X1_setBase b0 fu (b0 + 20) 2 (some (b0 + 33)) ρ = some ((), sA ρ (b0 + 21) 2 (some (b0 + 33))) := by
  unfold m_X1_setBase J_X1_setBase_28
  have k21 : tk ρ (b0 + 21) = .inr (4, 2034) := L.2.2.2.2.2.2.2.2.2.2.2.2.2.2.2.2.2.2.2.2.2.2.1
  have r3 : tA ρ (b0 + 20) 3 = some (b0 + 21) := rfC_20_3z L
  show grw ρ (if nI 2 < nI 0 then _ else if nI 2034 ≤ nI 2 then _ else _) = _
  rw [if_t (by omega) (by omega), if_neg (by omega), if_l (by omega) (by omega), if_neg (by omega), ckC_20z L, osm_p r3, ckR_p k21 ⟨by omega, by rw [h35]; omega⟩]
  show grw ρ (ckI (nI 2) 2034 (omt (tA ρ (b0 + 21) ((nI 2).toNatClampNeg)) _ _)) = _
  rw [ckI_n (by omega) (by omega), nI_cl (by omega), e2, omt_none, giveN_c, cll_some, ckC_20z L, osm_p r3, omt_some, ckR_p k21 ⟨by omega, by rw [h35]; omega⟩]
  show grw ρ (ckI (nI 2) 2034 (ckO b0 ρ (b0 + 33) 4 (some ((), sA ρ (b0 + 21) ((nI 2).toNatClampNeg) (some (b0 + 33)))))) = _
  rw [ckI_n (by omega) (by omega), nI_cl (by omega), ckO_p k1 ⟨by omega, by rw [h35]; omega⟩]
  exact grw_p rfl (Nat.le_refl _) (Nat.le_refl _)
/-- how the class's memory is behind its constructor -/
def CI0 (b0 u : Nat) (C' : tS) (τ : tM) : Prop := CAz b0 τ C' ∧ tn τ = 35 ∧ tu τ = u + 34 ∧ (tk τ (b0 + 33) = .inl 4 ∧ tk τ (b0 + 34) = .inr (3, 32) ∧ tA τ (b0 + 33) 0 = some (b0 + 34)) ∧ (∀ j, tL τ (b0 + 34) j = lN (if j < 32 then C' 11 (64 + j) else 0)) ∧ (∀ j, tA τ (b0 + 3) j = none ∧ tA τ (b0 + 8) j = none ∧ tA τ (b0 + 21) j = if j = 2 then some (b0 + 33) else none) ∧ tA τ (b0 + 20) 5 = none ∧ tA τ (b0 + 20) 6 = none ∧ tA τ (b0 + 20) 7 = none
theorem begin_z (hu : 7000 ≤ fu) (hm : MB b0 0 τ0 σ 33 u Kc (Rc b0)) : ∃ τ C2, m_X10_begin b0 fu (b0 + 0) (nI 40) (nI 16) σ = some ((), τ) ∧ S2p 40 16 (rsD C00 0 (34 + 40 + 16)) C2 ∧ CI0 b0 u (C4f C2 40) τ := by
  have h : CMz b0 σ C00 D00 := ⟨MB_CA hm, rfl⟩
  obtain ⟨t33, tu0, -, -, hm5⟩ := hm
  have a : ∀ i j, i < 33 → tA σ (b0 + i) j = Rc b0 i j := fun i j hi => ((hm5 i (Nat.zero_le _) hi).2 j).2.2
  have L := h.lay
  have fg := forget_z (fu := fu) (by omega) h rfl ((a 20 5 (by omega)).trans rfl) ((a 20 6 (by omega)).trans rfl)
  obtain ⟨_, ρ2, e2, f2, q2⟩ := dkReset_cz (fu := fu) (n := 34 + 40 + 16) (by omega) (show C00 1 8 ≤ 6130 by decide) (by omega) h
  have q2 : CMz b0 ρ2 (rsD C00 0 (34 + 40 + 16)) D00 := q2
  obtain ⟨d1, d2, d3⟩ := rsD_f C00 0 (34 + 40 + 16)
  have z10 : ∀ q, rsD C00 0 (34 + 40 + 16) 10 q = 0 := fun q => by
    rw [d1 10 (by decide) (by decide) (by decide) (by decide)]
    unfold C00
    rw [if_neg (by omega), if_neg (by omega)]
  have z15 : ∀ p c, 15 ≤ p → p ≤ 17 → rsD C00 0 (34 + 40 + 16) p c = 0 := fun p c h1 h2 => by
    rw [d1 p (by omega) (by omega) (by omega) (by omega)]
    unfold C00
    rw [if_neg (by omega), if_neg (by omega)]
  have rs : wp (FCz b0) ρ2 (m_X5_reset b0 fu (b0 + 10) (nI 40) (nI 16) ρ2) (fun _ τ => ∃ C', CMz b0 τ C' D00 ∧ S2p 40 16 (rsD C00 0 (34 + 40 + 16)) C') := by
    refine wp_grw (FC_goodz b0) ?_
    rw [ckC_10z q2.lay]
    refine wp_bind (FC_goodz b0) (marks_z (fu := fu) (by omega) q2 (z10 7)) (fun _ ρ q => ?_)
    exact spB_cz (fu := fu) (l := 40) (r := 16) (by omega) (by omega) (by omega) ⟨z10 11, z10 12, z10 13⟩ (fun c => ⟨z15 15 c (by omega) (by omega), z15 16 c (by omega) (by omega), z15 17 c (by omega) (by omega)⟩) (by omega) q
  obtain ⟨_, ρ3, e3, f3, C2, q3, s2⟩ := rs
  have ci2 : ci C2 := S2_ci (by omega) (by omega) s2
  have su : wp (FCz b0) ρ3 (m_X8_setUp b0 fu (b0 + 18) 0 2 0 ρ3) (fun _ τ => CMz b0 τ (suC C2 0 2 0) D00) := setUp_cz (fu := fu) (n := 0) (k := 2) (p := 0) q3 ci2 (by omega) (by omega) (by omega)
  obtain ⟨_, ρ4, e4, f4, q4⟩ := su
  obtain ⟨_, ρ5, e5, f5, q5⟩ := jr1_cz (fu := fu) (l := 40) (by omega) (ci_su ci2) (by omega) q4
  have fa : FCz b0 σ ρ5 := FC_2z f2 (FC_2z f3 (FC_2z f4 f5))
  have n5 : tn ρ5 = 33 := by rw [fa.1, t33]
  have a5 : ∀ i j, i < 33 → tA ρ5 (b0 + i) j = Rc b0 i j := fun i j hi => by rw [fa.2.2.2.1]; exact a i j hi
  have tkr := take_z (fu := fu) q5.lay n5 ((a5 20 7 (by omega)).trans rfl)
  obtain ⟨w1, w2, w3, w4, w5, w6, w7⟩ := nw3_f (b0 := b0) n5
  have c6 : CAz b0 (nw3 b0 ρ5) (jrC (suC C2 0 2 0) 40) := CA_z q5.ca (by rw [w1, n5]; omega) (fun o ho => (w3 _ (by omega) (by omega)).1) (fun o ho _ => (w3 _ (by omega) (by omega)).2.2.2) (fun o ho => (w3 _ (by omega) (by omega)).2.1) (w3 _ (by omega) (by omega)).2.2.1
  have a6 : ∀ i j, i < 33 → tA (nw3 b0 ρ5) (b0 + i) j = Rc b0 i j := fun i j hi => by rw [(w3 _ (by omega) (by omega)).2.2.2]; exact a5 i j hi
  have a33 : tA (nw3 b0 ρ5) (b0 + 33) 0 = some (b0 + 34) := by rw [w6, if_pos rfl]
  have svr := save_z (fu := fu) c6.1 w1 w4 w5 a33
  obtain ⟨v1, v2, v3, v4, v5, v6, v7⟩ := sv3_f (b0 := b0) (ρ := nw3 b0 ρ5)
  generalize nw3 b0 ρ5 = ρ6 at *
  have c7 : CAz b0 (sv3 b0 ρ6) (jrC (suC C2 0 2 0) 40) := CA_z c6 (by rw [v1]; exact Nat.le_refl _) (fun o _ => by rw [v3]) (fun o _ _ => by rw [v5]) (fun o _ => by rw [v4]) (v6 _ (by omega))
  have bsr := base_z (fu := fu) c7.1 (by rw [v1, w1]) (by rw [v3]; exact w4) (by rw [v5]; exact (a6 21 2 (by omega)).trans rfl)
  generalize sv3 b0 ρ6 = ρ7 at *
  have c8 : CAz b0 (sA ρ7 (b0 + 21) 2 (some (b0 + 33))) (jrC (suC C2 0 2 0) 40) := CA_z c7 (Nat.le_refl _) (fun o _ => rfl) (fun o h1 h2 => by
    funext j
    rw [rd_AA, if_neg (by omega)]) (fun o _ => rfl) rfl
  have a8 : ∀ x j, tA (sA ρ7 (b0 + 21) 2 (some (b0 + 33))) x j = if x = b0 + 21 then (if j = 2 then some (b0 + 33) else tA ρ6 x j) else tA ρ6 x j := fun x j => by rw [rd_AA, v5]
  have n8 : tn (sA ρ7 (b0 + 21) 2 (some (b0 + 33))) = 35 := by rw [rd_nA, v1, w1]
  have u8 : tu (sA ρ7 (b0 + 21) 2 (some (b0 + 33))) = u + 34 := by
    show tu ρ7 = _
    rw [v2, w2, fa.2.1, tu0]
  have k8 : tk (sA ρ7 (b0 + 21) 2 (some (b0 + 33))) = tk ρ6 := v3
  have l8 : ∀ j, tL (sA ρ7 (b0 + 21) 2 (some (b0 + 33))) (b0 + 34) j = lN (if j < 32 then jrC (suC C2 0 2 0) 40 11 (64 + j) else 0) := fun j => by
    show tL ρ7 (b0 + 34) j = _
    rw [v7]
    by_cases g : j < 32
    · rw [if_pos g, if_pos g, c6.2.2.1]
    · rw [if_neg g, if_neg g, w7]
      rfl
  obtain ⟨_, τ, e9, f9, q9⟩ := tail_cz (fu := fu) (D := D00) (by omega) (show CMz b0 (sA ρ7 (b0 + 21) 2 (some (b0 + 33))) (jrC (suC C2 0 2 0) 40) D00 from ⟨c8, rfl⟩)
  have t11 : C4f C2 40 11 = jrC (suC C2 0 2 0) 40 11 := (tl_f (C := jrC (suC C2 0 2 0) 40)).1 11 (by decide) (by decide) (by decide) (by decide)
  have r21 : ∀ j, Rc b0 21 j = none := fun j => rfl
  refine ⟨τ, C2, ?_, s2, q9.ca, by rw [f9.1, n8], by rw [f9.2.1, u8], ⟨by rw [f9.2.2.1, k8]; exact w4, by rw [f9.2.2.1, k8]; exact w5, ?_⟩, fun j => ?_, fun j => ⟨?_, ?_, ?_⟩, ?_, ?_, ?_⟩
  · have rst : m_X1_reset b0 fu (b0 + 20) (nI 40) ρ4 = some ((), sA ρ7 (b0 + 21) 2 (some (b0 + 33))) := by
      unfold m_X1_reset
      rw [ckC_20z q4.lay, e5, cll_some, ckC_20z q5.lay, tkr, cll_some, omt_some, ckC_20z c6.1, osm_p (rfC_20_1z c6.1), ckC_10z c6.1, svr, cll_some, ckC_20z c7.1, bsr, cll_some]
      refine grw_p rfl ?_ ?_
      · rw [n8]
        have := f5.1
        omega
      · rw [u8]
        have := f5.2.1
        have := fa.2.1
        omega
    have en : (34 : Int32) + nI 40 + nI 16 = nI (34 + 40 + 16) := by decide
    have nσ : tn σ ≤ tn τ := by rw [f9.1, n8, t33]; omega
    have uσ : tu σ ≤ tu τ := by rw [f9.2.1, u8, tu0]; omega
    unfold m_X10_begin
    rw [ckC_0z L, osm_p (rfC_0_3z L), ckC_20z L, fg, cll_some, ckC_0z L, osm_p (rfC_0_0z L), ckC_1z L, en, e2, cll_some, ckC_0z q2.lay, osm_p (rfC_0_1z q2.lay), ckC_10z q2.lay, e3, cll_some, ckC_0z q3.lay, osm_p (rfC_0_2z q3.lay), ckC_18z q3.lay, e4, cll_some, ckC_0z q4.lay, osm_p (rfC_0_3z q4.lay), ckC_20z q4.lay, rst, cll_some]
    exact grw_p e9 nσ uσ
  · rw [f9.2.2.2.1, a8, if_neg (by omega)]
    exact a33
  · rw [(f9.2.2.2.2 _ (by omega)).2, l8 j, t11]
  · rw [f9.2.2.2.1, a8, if_neg (by omega), a6 3 j (by omega)]
    rfl
  · rw [f9.2.2.2.1, a8, if_neg (by omega), a6 8 j (by omega)]
    rfl
  · rw [f9.2.2.2.1, a8, if_pos rfl, a6 21 j (by omega), r21]
  · rw [f9.2.2.2.1, a8, if_neg (by omega), a6 20 5 (by omega)]
    rfl
  · rw [f9.2.2.2.1, a8, if_neg (by omega), a6 20 6 (by omega)]
    rfl
  · rw [f9.2.2.2.1, a8, if_neg (by omega), a6 20 7 (by omega)]
    rfl
end CIB
