/-! ===== PURE: the journal's postGroup, in both ===== -/
/-- what is made, rows of the disk apart: at most -/
def EL (D D' : tD) (n m : Nat) : Prop := dE D' + 34 * kpn D ≤ dE D + 34 * kpn D' + n ∧ dO D' + 2 * kpn D ≤ dO D + 2 * kpn D' + m
def PZ (Φ : tPh) (b0 : Nat) (bi : Nat → Nat) (w : Nat → Nat × Nat) (D : tD) (K r e o : Nat) (v : Int32 ⊕ Unit) (τ : tM) (X : tP ⊕ tP) : Prop := match X with
  | .inl s => v = .inl (nI r) ∧ ∃ sp C' D', CM b0 τ C' D' ∧ RO Φ bi sp w C' D' s.1 s.2 ∧ EL D D' e o ∧ dsk s.1 K
  | .inr s => v = .inr () ∧ ∃ sp C' D', CM b0 τ C' D' ∧ OF Φ bi sp C' D' s.1 s.2 ∧ EL D D' 6 1
section PGC
variable {Φ : tPh} {b0 fu : Nat} {σ τ : tM} {bi sp : Nat → Nat} {w : Nat → Nat × Nat} {C C' : tS} {D D' D'' : tD} {A B : tS} {J J' : tJ} {K n m k sz un x : Nat}
theorem EL_of (h : EP D D' n m) : EL D D' n m := ⟨by have := h.1; omega, by have := h.2; omega⟩
theorem EL_t {n' m' : Nat} (h : EL D D' n m) (k : EL D' D'' n' m') : EL D D'' (n + n') (m + m') := by
  obtain ⟨h1, h2⟩ := h
  obtain ⟨k1, k2⟩ := k
  exact ⟨by omega, by omega⟩
theorem EL_le {n' m' : Nat} (h : EL D D' n m) (h1 : n ≤ n') (h2 : m ≤ m') : EL D D' n' m' := ⟨by have := h.1; omega, by have := h.2; omega⟩
theorem fl_RO (hΦ : goodT Φ) (hok : ∀ w A, Φ w A → okT A) (h : CM b0 σ C D) (hR : RO Φ bi sp w C D A J) (hd : dsk A (K + 2)) {s : tP} (e : flushX A J = .inl s) : ∃ ρ C' D', CM b0 ρ C' D' ∧ RO Φ bi sp w C' D' s.1 s.2 := by
  obtain ⟨v, τ, -, -, q⟩ := flush_c (fu := 3000) hΦ hok h hR hd (by omega)
  rw [e] at q
  obtain ⟨-, C', D', q1, q2, -⟩ := q
  exact ⟨τ, C', D', q1, q2⟩
theorem ck_RO (hΦ : goodT Φ) (hok : ∀ w A, Φ w A → okT A) (h : CM b0 σ C D) (hR : RO Φ bi sp w C D A J) (hd : dsk A (K + 2100006)) {s : tP} (e : checkX A J = .inl s) : dsk s.1 K ∧ s.1 35 28 = A 35 28 ∧ s.1 35 29 = A 35 28 ∧ s.1 35 35 = A 35 28 ∧ s.1 35 32 = A 35 28 ∧ (∀ q, q = 0 ∨ q = 6 ∨ q = 7 ∨ q = 33 ∨ q = 34 ∨ q = 57 → s.1 35 q = A 35 q) := by
  refine ck_f hR.1.2.1.2.2.1 hd (fun s1 e1 => ?_) e
  obtain ⟨ρ1, C1, D1, a1, a2⟩ := fl_RO (K := K + 2100004) hΦ hok h hR hd e1
  have jo1 := a2.1.2.1.2.2.1
  refine ⟨jo1, fun B eB => ?_⟩
  obtain ⟨d1, k28, k29, k30, k32, k35, k31, -, -⟩ := flX_f (K := K + 2100004) hd hR.1.2.1.2.2.1 e1
  have jo1' := jo1
  unfold JO at jo1'
  obtain ⟨v, τ, -, -, q⟩ := applySome_c (fu := 3000) (K := K + 4) (most := 1000000) hΦ hok (by omega) (by omega) a1 a2 (dsk_le d1 (by omega))
  rw [show min 1000000 (s1.1 35 29 - s1.1 35 30) = s1.1 35 29 - s1.1 35 30 by omega, eB] at q
  obtain ⟨-, C2, D2, q1, q2, -, q4⟩ := q
  refine ⟨⟨q4, q2.1.2.1.2.2.1⟩, fun s2 e2 => ?_⟩
  obtain ⟨ρ3, C3, D3, b1, b2⟩ := fl_RO (K := K + 2) hΦ hok q1 q2 q4 e2
  exact b2.1.2.1.2.2.1
theorem lg_rows : ∀ m j (A B : tS), lgX sz j m A = .inl B → dkO A B
  | 0, j, A, B, h => by
    have h : (Sum.inl A : tS ⊕ tS) = .inl B := h
    cases h
    exact ⟨fun _ _ _ => rfl, fun _ _ _ _ _ _ _ => rfl⟩
  | m + 1, j, A, B, h => by
    have h : bX (verX A (34 + (A 35 33 + j) % A 35 6) 2 (A 35 34)) (lgX sz (j + 1) m) = .inl B := h
    by_cases e : A 35 19 = 1
    · have ex : verX A (34 + (A 35 33 + j) % A 35 6) 2 (A 35 34) = .inr (powA A) := if_pos e
      rw [ex] at h
      cases h
    · have ex : verX A (34 + (A 35 33 + j) % A 35 6) 2 (A 35 34) = .inl (verA A (34 + (A 35 33 + j) % A 35 6) 2 (A 35 34)) := if_neg e
      rw [ex] at h
      have ih := lg_rows m (j + 1) _ B h
      have kv := dk_ver (A := A) (b := 34 + (A 35 33 + j) % A 35 6) (wh := 2) (id := A 35 34)
      exact ⟨fun o a b => by rw [ih.1 o a b, kv.1 o a b], fun q a b c d e f => by rw [ih.2 q a b c d e f, kv.2 q a b c d e f]⟩
/-- a record made, blocks put, the transaction appended -/
theorem pg31 (hΦ : goodT Φ) (hok : ∀ w A, Φ w A → okT A) (hu : 5000 ≤ fu) (h : CM b0 σ C D) (hR : RO Φ bi sp w C D A J) (hd : dsk A (K + sz)) (h1 : 1 ≤ sz) (hf : szL J.1 0 (A 35 28 - A 35 35) + sz ≤ A 35 6) (hun : un < 1000000000) (hst : A 35 34 + 1 < 1000000) (hl : A 35 28 + 1 < 1000) :
    wp (FC b0) σ (J_X1_postGroup_31 b0 fu (b0 + 20) (nI sz) σ) (fun v τ => PZ Φ b0 bi w D K sz (8 + 36 * tcA A + rcA A) (4 + 2 * tcA A) v τ (cm1X A J sz un)) := by
  have jo := hR.1.2.1.2.2.1
  unfold JO at jo
  have P0 := PG_0 (un := un) hΦ hok hR h1 hf hun hst
  have rf := rec_f (A := up2 A 35 34 (A 35 34 + 1)) (J := J) (sz := sz) (un := un)
  have nr := hR.2.2.2.2.2.2.2.1
  have bk : ∀ q, q ≠ 34 → up2 A 35 34 (A 35 34 + 1) 35 q = A 35 q := fun q hq => up2_j hq
  have J0 : RJ (up2 A 35 34 (A 35 34 + 1)) (recJ (up2 A 35 34 (A 35 34 + 1)) J sz un) (A 35 28 - A 35 35) un := by
    obtain ⟨f1, ⟨f2, f3, f4, f5, f6, f7, f8⟩, ⟨f9, f10, f11⟩, f12, f13, f14⟩ := rf
    rw [← nr]
    refine ⟨f7, f8, fun b b1 b2 => by rw [f6]; exact f10 b b1 b2, fun b b1 b2 => by rw [f6, f7]; exact f11 b b1 b2, f5, (f14 un _).mpr (Or.inr ⟨rfl, rfl⟩)⟩
  have d0 : dsk (up2 A 35 34 (A 35 34 + 1)) (K + sz) := dsk_cg hd (fun q hq => bk q (by omega)) (up2_rown (by decide)) (up2_rown (by decide))
  have tcE : tcA (up2 A 35 34 (A 35 34 + 1)) = tcA A ∧ rcA (up2 A 35 34 (A 35 34 + 1)) = rcA A := by
    unfold tcA rcA
    rw [up2_rown (by decide), up2_rown (by decide)]
    exact ⟨rfl, rfl⟩
  unfold J_X1_postGroup_31
  rw [ckC_20 h.lay, cf_20_17 h.ca, show nI (C 20 17) + (1 : Int32) = nI (C 20 17 + 1) from nI_add _ 1]
  have g1 : CM b0 (sI σ (b0 + 20) 17 (nI (C 20 17 + 1))) (up2 C 20 17 (C 20 17 + 1)) D := CM_fix (o := 20) h rfl rfl (by have := hR.1.2.2.2.2.2.2.2.1.2.2.2; show _ < 2147483648; omega)
  refine wp_from (FC_good b0) (σ1 := sI σ (b0 + 20) 17 (nI (C 20 17 + 1))) (FC_sI h.rf (by omega)) ?_
  unfold cm1X
  generalize hA1 : up2 A 35 34 (A 35 34 + 1) = A1 at *
  generalize hJ1 : recJ A1 J sz un = J1 at *
  refine pg43 (K := K) (J := J1) hΦ hok (by omega) sz 0 fu _ _ D A1 g1 P0 d0 (by omega) (by omega) (fun τ C' D' B k1 k2 k3 k4 k5 k6 k7 k8 k9 => ?_) (fun τ C' D' B k1 k2 k3 k4 => ?_)
  · rw [k1]
    show wp (FC b0) τ _ (fun v τ => PZ Φ b0 bi w D K sz (8 + 36 * tcA A + rcA A) (4 + 2 * tcA A) v τ (.inl (cmF B sz, J1)))
    have B28 : B 35 28 = A 35 28 := by rw [k8 28 (by omega), bk 28 (by decide)]
    have B35 : B 35 35 = A 35 35 := by rw [k8 35 (by omega), bk 35 (by decide)]
    have B6 : B 35 6 = A 35 6 := by rw [k8 6 (by omega), bk 6 (by decide)]
    have jr := k3.1.2.1
    have jf := jr.1
    have hJB : RJ B J1 (B 35 28 - B 35 35) un := by rw [B28, B35]; exact RJ_dk J0 k9
    have R := gs_parts k3.2.1
    have tB : tcA B = tcA A ∧ rcA B = rcA A := by
      rw [← tcE.1, ← tcE.2]
      unfold tcA rcA
      rw [k9.1 51 (by decide) (by decide), k9.1 52 (by decide) (by decide)]
      exact ⟨rfl, rfl⟩
    have h33 : B 35 33 < B 35 6 := by
      rw [jr.2.2.2.1.2.1]
      exact Nat.mod_lt _ (by omega)
    refine wp_bind (FC_good b0) (appendJ_c (fu := fu) (sz := sz) k2 k3.2.1.rk.1 (by rw [jf.2.2.2.1, jr.2.1.2]) (by rw [jf.2.1]; omega) (by rw [jr.2.2.2.2.1]; have := jr.2.2.2.1.2.2; omega) (by rw [jr.2.1.2]; omega) (by omega)) ?_
    rintro _ ρ ⟨D2, z, tl, rl, a1, a2, a3, a4, a5, a6, a7⟩
    have hRO := RO_end (x := b0 + tn τ) hΦ hok k3 hJB (by rw [B28]; exact hl) a2 a3 a4 a5 (by omega)
    have dl2 : dL (adT D2 (b0 + tn τ) (C' 20 17) (C' 20 10) sz (C' 10 11) (C' 10 12) tl z rl) = dL D' := a4.2.2.2.1
    have dh2 : dH (adT D2 (b0 + tn τ) (C' 20 17) (C' 20 10) sz (C' 10 11) (C' 10 12) tl z rl) = dH D' + 1 := by
      show dH D2 + 1 = _
      rw [a4.2.2.2.2]
    refine wp_ret ((FC_good b0).1 _) ⟨rfl, _, apG C' (adT D2 (b0 + tn τ) (C' 20 17) (C' 20 10) sz (C' 10 11) (C' 10 12) tl z rl) sz (B 35 28 + 1 - B 35 35), _, CM_gh a1 (fun q => ?_), hRO, ?_, ?_⟩
    · by_cases c : q < 65088
      · rw [if_pos c]
        exact mW_lt a1 (by omega) _ (by rw [dl2, dh2, jr.2.1.1, jr.2.1.2]; omega)
      · rw [if_neg c]
        decide
    · have e1 := EL_of k6
      have kp : kpn (adT D2 (b0 + tn τ) (C' 20 17) (C' 20 10) sz (C' 10 11) (C' 10 12) tl z rl) = kpn D' := by
        unfold kpn
        rw [show dP (adT D2 (b0 + tn τ) (C' 20 17) (C' 20 10) sz (C' 10 11) (C' 10 12) tl z rl) = dP D' from a4.1]
      have eE : dE (adT D2 (b0 + tn τ) (C' 20 17) (C' 20 10) sz (C' 10 11) (C' 10 12) tl z rl) = dE D2 := rfl
      have eO : dO (adT D2 (b0 + tn τ) (C' 20 17) (C' 20 10) sz (C' 10 11) (C' 10 12) tl z rl) = dO D2 := rfl
      have t5 := R.2.2.2.2.1
      have t6 := R.2.2.2.2.2
      obtain ⟨e2, e3⟩ := e1
      unfold EL
      rw [kp, eE, eO]
      constructor
      · omega
      · omega
    · obtain ⟨y1, -, -, -, -, -, y7⟩ := cmF_f (A := B) (sz := sz)
      show dsk (cmF B sz) K
      exact dsk_cg k7 (fun q hq => by rw [y1, if_neg (by omega), if_neg (by omega)]) (y7 42 (by decide) (by decide) (by decide) (by decide) (by decide)) (y7 43 (by decide) (by decide) (by decide) (by decide) (by decide))
  · rw [k1]
    exact ⟨rfl, _, C', D', k2, k3, EL_of k4⟩
/-- a checkpoint first -/
theorem pg_ck (hΦ : goodT Φ) (hok : ∀ w A, Φ w A → okT A) (hu : 5000 ≤ fu) {K1 gz : Nat} (h : CM b0 σ C D) (hR : RO Φ bi sp w C D A J) (hd : dsk A (K1 + 2100006)) (hK : K + gz ≤ K1) (h1 : 1 ≤ gz) (hg : gz ≤ A 35 6) (hun : un < 1000000000) (hst : A 35 34 + 1 < 1000000) (hl : A 35 28 + 1 < 1000) (ht : ∀ s, checkX A J = .inl s → tcA s.1 = tcA A ∧ rcA s.1 = rcA A) :
    wp (FC b0) σ (clx (m_X1_checkpoint b0 fu (b0 + 20) σ) (fun _ ρ => J_X1_postGroup_31 b0 fu (b0 + 20) (nI gz) ρ)) (fun v τ => PZ Φ b0 bi w D K gz (8 + 36 * tcA A + rcA A) (4 + 2 * tcA A) v τ (bP (checkX A J) (fun s => cm1X s.1 s.2 gz un))) := by
  have ck := checkpoint_c (fu := fu) (K := K1) hΦ hok (by omega) h hR hd
  have cr := fun s e => ck_RO (s := s) (K := K1) hΦ hok h hR hd e
  generalize checkX A J = X at *
  cases X with
  | inr s =>
    refine wp_clx (FC_good b0) ck (fun v ρ q => by cases q.1) (fun ρ q => ?_)
    obtain ⟨-, C', D', q1, q2, q3⟩ := q
    exact ⟨rfl, sp, C', D', q1, q2, EL_of q3⟩
  | inl s =>
    refine wp_clx (FC_good b0) ck (fun v ρ q => ?_) (fun ρ q => by cases q.1)
    obtain ⟨-, C', D', q1, q2, q3⟩ := q
    obtain ⟨m1, m2, m3, m4, m5, m6⟩ := cr s rfl
    obtain ⟨t1, t2⟩ := ht s rfl
    have e0 : s.1 35 28 - s.1 35 35 = 0 := by rw [m2, m4, Nat.sub_self]
    have P := pg31 (fu := fu) (K := K) (sz := gz) (un := un) hΦ hok hu q1 q2 (dsk_le m1 hK) h1 (by rw [e0, m6 6 (by omega)]; show 0 + gz ≤ _; omega) hun (by rw [m6 34 (by omega)]; exact hst) (by rw [m2]; exact hl)
    rw [t1, t2] at P
    refine wp_mono P (fun v ρ2 _ p => ?_)
    show PZ Φ b0 bi w D K gz (8 + 36 * tcA A + rcA A) (4 + 2 * tcA A) v ρ2 (cm1X s.1 s.2 gz un)
    generalize cm1X s.1 s.2 gz un = Y at p
    cases Y with
    | inl y =>
      obtain ⟨a1, sp2, C2, D2, a2, a3, a4, a5⟩ := p
      exact ⟨a1, sp2, C2, D2, a2, a3, EL_le (EL_t (EL_of q3) a4) (by omega) (by omega), a5⟩
    | inr y =>
      obtain ⟨a1, sp2, C2, D2, a2, a3, a4⟩ := p
      exact ⟨a1, sp2, C2, D2, a2, a3, EL_le (EL_t (EL_of q3) a4) (by omega) (by omega)⟩
/-- postGroup, where there is a group -/
theorem postGroup_c (hΦ : goodT Φ) (hok : ∀ w A, Φ w A → okT A) (hu : 5000 ≤ fu) (h : CM b0 σ C D) (hR : RO Φ bi sp w C D A J) {K2 : Nat} (hd : dsk A K2) (hK : K + 4096 + 2100006 ≤ K2) (ht : ∀ s, checkX A J = .inl s → tcA s.1 = tcA A ∧ rcA s.1 = rcA A) (hg : gsA A ≤ A 35 6) (hun : un < 1000000000) (hst : A 35 34 + 1 < 1000000) (hl : A 35 28 + 1 < 1000) :
    wp (FC b0) σ (m_X1_postGroup b0 fu (b0 + 20) σ) (fun v τ => PZ Φ b0 bi w D K (gsA A) (8 + 36 * tcA A + rcA A) (4 + 2 * tcA A) v τ (if gsA A = 0 then .inl (A, J) else cmX A J un)) := by
  have L := h.lay
  have jo := hR.1.2.1.2.2.1
  have jr := hR.1.2.1
  have jo0 := jo
  unfold JO at jo
  have ge := gs_eq hR.2.1
  have cx : cmX A J un = if gsA A ≤ freA_ A J then cm1X A J (gsA A) un else bP (checkX A J) (fun s => cm1X s.1 s.2 (gsA A) un) := rfl
  refine wp_grw (FC_good b0) ?_
  rw [ckC_20 L, osm_p (rfC_20_1 L), ckC_10 L, groupSize_c h.ca hR.2.1.rk.1, cll_some, ge, cx]
  clear cx ge
  generalize gsA A = gz at *
  show wp (FC b0) σ (if nI gz = nI 0 then _ else _) _
  rw [if_e (by omega) (by omega)]
  by_cases c0 : gz = 0
  · rw [if_pos c0, if_pos c0]
    refine wp_ret ((FC_good b0).1 _) ⟨by rw [c0]; rfl, sp, C, D, h, hR, EL_le (EL_of (EP_r D)) (by omega) (by omega), dsk_le hd (by omega)⟩
  · rw [if_neg c0, if_neg c0, ckC_20 L, cf_20_8 h.ca, cf_20_9 h.ca, jr.1.1, jr.2.2.2.2.1, nI_sb jr.2.2.2.1.2.2.1, if_l (by omega) (by omega)]
    have ef : freA_ A J = A 35 6 - szL J.1 0 (A 35 28 - A 35 35) := by
      unfold freA_
      rw [jo.1, Nat.sub_self]
    rw [ef]
    have us := jr.2.2.2.1.2.2.1
    by_cases c : gz ≤ A 35 6 - szL J.1 0 (A 35 28 - A 35 35)
    · rw [if_pos c, if_pos c]
      exact pg31 hΦ hok hu h hR (dsk_le hd (by omega)) (by omega) (by omega) hun hst hl
    · rw [if_neg c, if_neg c]
      exact pg_ck (K1 := K + 4096) hΦ hok hu h hR (dsk_le hd hK) (by omega) (by omega) hg hun hst hl ht
end PGC
