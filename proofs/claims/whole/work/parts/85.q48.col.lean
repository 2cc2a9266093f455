/-! ===== PURE: the journal's collect, its loop ===== -/
section COM
variable {b0 fu : Nat} {σ τ ρ : tM} {C C' : tS} {D D' D'' : tD} {pl : Nat → Nat × Nat} {mo z tl rl : Nat → Nat} {m n x T R t r c : Nat} {i0 : Nat → Int32}
/-- the objects of the transactions that are there lie below -/
def lowT (D : tD) (x : Nat) : Prop := ∀ n, dL D < n → n ≤ dH D → dT D 0 n < x ∧ dT D 5 n < x ∧ dT D 6 n < x ∧ dT D 7 n < x
theorem col94 {rc7 : Nat → Option Nat → Int32 → Int32 → Int32 → tM → Option (Unit × tM)} {Q : Unit → tM → Prop} (h : CG b0 σ C D mo0 z t) (hc : ci C) (hm : MKt b0 σ x T R t r tl rl z i0) (hl : lowT D x) (hcc : c < C 10 7) (h1 : 1 ≤ c) (hT : T < 2147483648) (hR : R < 2147483648) (hr : r = cn (p16 C) 0 c) (hrR : R = cn (p16 C) 0 (C 10 7)) (ls : LSr C c r rl)
    (K : ∀ τ rl', CG b0 τ C D mo0 z t → MKt b0 τ x T R t (cn (p16 C) 0 (c + 1)) tl rl' z i0 → LSr C (c + 1) (cn (p16 C) 0 (c + 1)) rl' → wp (F6 b0) τ (rc7 (b0 + 20) (some x) (nI t) (nI (cn (p16 C) 0 (c + 1))) (nI (c + 1)) τ) Q) :
    wp (F6 b0) σ (J_X1_collect_94 b0 fu rc7 (b0 + 20) (some x) (nI t) (nI r) (nI c) σ) Q := by
  have L := h.lay
  have c7 := hc.1.2.1
  have e1 := cn_1 (p := p16 C) c
  have hm0 := hm
  obtain ⟨⟨m1, m2, m3, m4⟩, ⟨m5, m6, m7, m8, m9⟩, ⟨a1, a2, a3, a4, a5, a6⟩, l1, l2⟩ := hm
  unfold J_X1_collect_94 J_X1_collect_126
  rw [ckC_20 L, osm_p (rfC_20_1 L), ckC_10 L, isRevoked_c h.ca hc (by omega), cll_some]
  unfold fgC
  by_cases q : C 16 c = 0
  · have pf : p16 C c = false := by unfold p16; rw [q]; rfl
    rw [if_neg (show ¬ (0 < c ∧ c < C 10 7 ∧ C 16 c ≠ 0) from fun z => z.2.2 q)]
    rw [pf, if_neg (by decide), Nat.add_zero] at e1
    have := K σ rl h (by rw [e1, ← hr]; exact hm0) (fun k hk => by rw [e1, ← hr] at hk; have := ls k hk; exact ⟨this.1, this.2.1, by omega, this.2.2.2⟩)
    rw [e1, ← hr] at this
    show wp (F6 b0) σ (if nI 0 = nI 0 then _ else _) Q
    rw [if_pos rfl, ltb_def, ofi]
    exact this
  · have pt' : p16 C c = true := by unfold p16; simp [q]
    have rl1 : r < R := by
      rw [hr, hrR]
      exact cn_lt hcc pt'
    rw [if_pos (show 0 < c ∧ c < C 10 7 ∧ C 16 c ≠ 0 from ⟨by omega, hcc, q⟩)]
    show wp (F6 b0) σ (if nI 1 = nI 0 then _ else _) Q
    have cr : ∀ {β : Type} (k : Nat → Option β), ckR b0 σ (x + 3) 0 k = k R := fun k => ckR_p m4 ⟨by omega, a2⟩
    rw [if_e (by omega) (by omega), if_neg (by omega), omt_some, ckO_p m1 ⟨by omega, by omega⟩, osm_p m7, cr, if_l hR (by omega), if_neg (by omega), osm_p m7, cr, ckI_n rl1 hR, nI_cl (by omega), ltb_def, ltb_def, ofi, ofi]
    have ss : ∀ a, a ≠ x + 3 → same σ (sI σ (x + 3) r (nI c)) a := fun a ha => same_sI ha
    obtain ⟨g1, g2⟩ := CG_obj (τ := sI σ (x + 3) r (nI c)) (y := x + 3) h rfl rfl rfl ss (by omega) a6 (by rw [m4]; simp) (by rw [m4]; simp) (fun n n1 n2 => by have := hl n n1 n2; omega)
    have er : cn (p16 C) 0 (c + 1) = r + 1 := by rw [e1, pt', if_pos rfl, ← hr]
    have i3 : ∀ k, tI (sI σ (x + 3) r (nI c)) (x + 3) k = if k = r then nI c else tI σ (x + 3) k := fun k => by rw [rd_II, if_pos rfl]
    have K1 := K (sI σ (x + 3) r (nI c)) (upz rl r c) g1 (by
      rw [er]
      refine ⟨⟨m1, m2, m3, m4⟩, ⟨m5, m6, m7, m8, by rw [(ss x (by omega)).2.1]; exact m9⟩, ⟨a1, a2, a3, a4, a5, a6⟩, fun k hk => by rw [(ss (x + 1) (by omega)).2.1]; exact l1 k hk, fun k hk => ?_⟩
      rw [i3]
      unfold upz
      by_cases d : k = r
      · rw [if_pos d, if_pos d]
      · rw [if_neg d, if_neg d]
        exact l2 k (by omega)) (by
      rw [er]
      intro k hk
      unfold upz
      by_cases d : k = r
      · rw [if_pos d]
        exact ⟨q, h1, by omega, by rw [d]; exact hr.symm⟩
      · rw [if_neg d]
        have := ls k (by omega)
        exact ⟨this.1, this.2.1, by omega, this.2.2.2⟩)
    rw [er] at K1
    exact wp_from (F6_good b0) g2 K1
theorem col37 {rc7 : Nat → Option Nat → Int32 → Int32 → Int32 → tM → Option (Unit × tM)} {Q : Unit → tM → Prop} (h : CG b0 σ C D mo0 z t) (hc : ci C) (hm : MKt b0 σ x T R t r tl rl z i0) (hl : lowT D x) (hcc : c < C 10 7) (h1 : 1 ≤ c) (hT : T < 2147483648) (hR : R < 2147483648) (ht : t = cn (p15 C) 0 c) (htT : T = cn (p15 C) 0 (C 10 7)) (lt : LSt C D c t tl z) (hr : r = cn (p16 C) 0 c) (hrR : R = cn (p16 C) 0 (C 10 7)) (ls : LSr C c r rl)
    (K : ∀ τ rl' tl' z' D', CG b0 τ C D' mo0 z' (cn (p15 C) 0 (c + 1)) → MKt b0 τ x T R (cn (p15 C) 0 (c + 1)) (cn (p16 C) 0 (c + 1)) tl' rl' z' i0 → LSr C (c + 1) (cn (p16 C) 0 (c + 1)) rl' → LSt C D' (c + 1) (cn (p15 C) 0 (c + 1)) tl' z' → sP D D' → KW D D' → dE D' ≤ dE D + 34 * (cn (p15 C) 0 (c + 1) - t) → dO D' ≤ dO D + 2 * (cn (p15 C) 0 (c + 1) - t) → wp (F6 b0) τ (rc7 (b0 + 20) (some x) (nI (cn (p15 C) 0 (c + 1))) (nI (cn (p16 C) 0 (c + 1))) (nI (c + 1)) τ) Q) :
    wp (F6 b0) σ (J_X1_collect_37 b0 fu rc7 (b0 + 20) (some x) (nI t) (nI r) (nI c) σ) Q := by
  have L := h.lay
  have c7 := hc.1.2.1
  have e1 := cn_1 (p := p15 C) c
  have hm0 := hm
  obtain ⟨⟨m1, m2, m3, m4⟩, ⟨m5, m6, m7, m8, m9⟩, ⟨a1, a2, a3, a4, a5, a6⟩, l1, l2⟩ := hm
  unfold J_X1_collect_37
  rw [ckC_20 L, osm_p (rfC_20_1 L), ckC_10 L, isTouched_c h.ca hc (by omega), cll_some]
  unfold fgC
  by_cases q : C 15 c = 0
  · have pf : p15 C c = false := by unfold p15; rw [q]; rfl
    rw [if_neg (show ¬ (0 < c ∧ c < C 10 7 ∧ C 15 c ≠ 0) from fun z => z.2.2 q)]
    rw [pf, if_neg (by decide), Nat.add_zero, ← ht] at e1
    show wp (F6 b0) σ (if nI 0 = nI 0 then _ else _) Q
    rw [if_pos rfl]
    refine col94 h hc hm0 hl hcc h1 hT hR hr hrR ls (fun τ rl' g1 g2 g3 => ?_)
    have := K τ rl' tl z D (by rw [e1]; exact g1) (by rw [e1]; exact g2) g3 (by rw [e1]; intro k hk; have := lt k hk; exact ⟨this.1, this.2.1, by omega, this.2.2.2⟩) (sP_r D) (KW_r D) (Nat.le_add_right _ _) (Nat.le_add_right _ _)
    rwa [e1] at this
  · have pt' : p15 C c = true := by unfold p15; simp [q]
    have tl1 : t < T := by
      rw [ht, htT]
      exact cn_lt hcc pt'
    have et : cn (p15 C) 0 (c + 1) = t + 1 := by rw [e1, pt', if_pos rfl, ← ht]
    rw [if_pos (show 0 < c ∧ c < C 10 7 ∧ C 15 c ≠ 0 from ⟨by omega, hcc, q⟩)]
    show wp (F6 b0) σ (if nI 1 = nI 0 then _ else _) Q
    have cr : ∀ {β : Type} (k : Nat → Option β), ckR b0 σ (x + 1) 0 k = k T := fun k => ckR_p m2 ⟨by omega, by omega⟩
    rw [if_e (by omega) (by omega), if_neg (by omega), omt_some, ckO_p m1 ⟨by omega, by omega⟩, osm_p m5, cr, if_l hT (by omega), if_neg (by omega), ckC_20 L]
    refine wp_bind (F6_good b0) (wp_mono (takeRow_c (fu := fu) h) (fun v ρ f q => (⟨f, q⟩ : F6 b0 σ ρ ∧ _))) ?_
    rintro v ρ ⟨f1, a, D1, ev, g1, g2, g3, g4⟩
    subst ev
    have L1 := g1.lay
    have nrow : ∀ y, x ≤ y → y ≤ x + 3 → ∀ w, ¬ isRow b0 σ y w := fun y y1 y2 w q => by
      have k4 := q.1
      have : y = x ∨ y = x + 1 ∨ y = x + 2 ∨ y = x + 3 := by omega
      rcases this with e | e | e | e
      · rw [e, m1] at k4; cases k4
      · rw [e, m2] at k4; cases k4
      · rw [e, m3] at k4; cases k4
      · rw [e, m4] at k4; cases k4
    have hm1 : MKt b0 ρ x T R t r tl rl z i0 := MKt_fr hm0 f1.1 (fun y y1 y2 => ⟨funext (fun j => (g4 y j (by omega) (by omega) (nrow y y1 y2)).1), funext (fun j => (g4 y j (by omega) (by omega) (nrow y y1 y2)).2.1), (g4 y 0 (by omega) (by omega) (nrow y y1 y2)).2.2⟩)
    have ra : isRow b0 ρ a (dW D1 a) := by
      have := g1.zrow (k := t) (by omega)
      rwa [upz_m] at this
    obtain ⟨ρ2, s1, s2, s3, s4, s5⟩ := save_c (fu := fu) (c := c) g1 ra (by omega)
    have hm2 : MKt b0 ρ2 x T R t r tl rl z i0 := MKt_fr hm1 s3 (fun y _ _ => s5 y)
    have ra2 : isRow b0 ρ2 a (dW (upW D1 a (fun j => if j < 32 then C 11 (c * 32 + j) else dW D1 a j)) a) := by
      have := s2.zrow (k := t) (by omega)
      rwa [upz_m] at this
    have sp1 : sP D D1 := by
      rcases g2 with ⟨e, -⟩ | ⟨e, -⟩ <;> (subst e; exact ⟨rfl, rfl, rfl, rfl, rfl⟩)
    have wz : ∀ k, k < t → z k ≠ a := fun k hk => by
      have := g1.zne (k := k) (k' := t) (by omega) (by omega) (by omega)
      rwa [upz_m, show upz z t a k = z k from if_neg (by omega)] at this
    have aP := g1.zP (k := t) (by omega)
    rw [upz_m] at aP
    have w1 : ∀ y, y ≠ a → dW D1 y = dW D y := fun y hy => by
      rcases g2 with ⟨e, -⟩ | ⟨e, -⟩
      · subst e; rfl
      · subst e; exact if_neg hy
    have e1' : dE D1 ≤ dE D + 34 ∧ dO D1 ≤ dO D + 2 := by
      rcases g2 with ⟨e, -⟩ | ⟨e, -⟩
      · subst e
        exact ⟨Nat.le_add_right _ _, Nat.le_add_right _ _⟩
      · subst e
        exact ⟨Nat.le_refl _, Nat.le_refl _⟩
    generalize hD2 : upW D1 a (fun j => if j < 32 then C 11 (c * 32 + j) else dW D1 a j) = D2 at s2 ra2
    have w2 : ∀ y, y ≠ a → dW D2 y = dW D y := fun y hy => by
      rw [← hD2]
      show (if y = a then _ else dW D1 y) = _
      rw [if_neg hy, w1 y hy]
    have wa : ∀ j, j < 32 → dW D2 a j = C 11 (c * 32 + j) := fun j hj => by
      rw [← hD2]
      show (if a = a then (fun j => if j < 32 then C 11 (c * 32 + j) else dW D1 a j) else dW D1 a) j = _
      rw [if_pos rfl]
      exact if_pos hj
    have sp2 : sP D D2 := by rw [← hD2]; exact sp1
    have kw2 : KW D D2 := by
      obtain ⟨s1, s2, s3, s4, s5⟩ := sp1
      refine ⟨fun o j y p e => w2 y (aP.1 o j y p (by rw [s1]; exact e)), fun n k n1 n2 n3 => w2 _ ?_⟩
      have := aP.2 n k (by rw [s4]; exact n1) (by rw [s5]; exact n2) (by rw [s2]; exact n3) (Nat.zero_le _)
      rwa [s3] at this
    have eO : dE D2 = dE D1 ∧ dO D2 = dO D1 := by rw [← hD2]; exact ⟨rfl, rfl⟩
    have hl2 : lowT D2 x := by
      obtain ⟨-, q2, -, q4, q5⟩ := sp2
      intro n n1 n2
      rw [q2]
      exact hl n (by rw [← q4]; exact n1) (by rw [← q5]; exact n2)
    obtain ⟨⟨M1, M2, M3, M4⟩, ⟨M5, M6, M7, M8, M9⟩, ⟨A1, A2, A3, A4, A5, A6⟩, N1, N2⟩ := hm2
    have cr2 : ∀ {β : Type} (k : Nat → Option β), ckR b0 ρ2 (x + 1) 0 k = k T := fun k => ckR_p M2 ⟨by omega, by omega⟩
    rw [omt_some, ckC_20 L1, osm_p (rfC_20_1 L1), ckC_10 L1, s1, cll_some, ckO_p M1 ⟨by omega, by omega⟩, osm_p M5, cr2, ckI_n tl1 hT, nI_cl (by omega)]
    have ss : ∀ y, y ≠ x + 1 → same ρ2 (sI ρ2 (x + 1) t (nI c)) y := fun y hy => same_sI hy
    obtain ⟨G1, G2⟩ := CG_obj (τ := sI ρ2 (x + 1) t (nI c)) (y := x + 1) s2 rfl rfl rfl ss (by omega) A4 (by rw [M2]; simp) (by rw [M2]; simp) (fun n n1 n2 => by have := hl2 n n1 n2; omega)
    have cr3 : ∀ {β : Type} (k : Nat → Option β), ckR b0 (sI ρ2 (x + 1) t (nI c)) (x + 2) 4 k = k T := fun k => ckR_p M3 ⟨by omega, by show x + 2 < b0 + tn ρ2; omega⟩
    have ra3 : isRow b0 (sI ρ2 (x + 1) t (nI c)) a (dW D2 a) := by
      have := G1.zrow (k := t) (by omega)
      rwa [upz_m] at this
    rw [osm_p (show tA (sI ρ2 (x + 1) t (nI c)) x 5 = some (x + 2) from M6), cr3, ckI_n tl1 hT, ckO_row ra3, ltb_def, ofi]
    have st : ∀ y, y ≠ x + 2 → same (sI ρ2 (x + 1) t (nI c)) (sA (sI ρ2 (x + 1) t (nI c)) (x + 2) t (some a)) y := fun y hy => same_sA hy
    obtain ⟨H1, H2⟩ := CG_obj (τ := sA (sI ρ2 (x + 1) t (nI c)) (x + 2) t (some a)) (y := x + 2) G1 rfl rfl rfl st (by omega) A5 (by show tk ρ2 (x + 2) ≠ _; rw [M3]; simp) (by show tk ρ2 (x + 2) ≠ _; rw [M3]; simp) (fun n n1 n2 => by have := hl2 n n1 n2; omega)
    have it : ∀ k, tI (sA (sI ρ2 (x + 1) t (nI c)) (x + 2) t (some a)) (x + 1) k = if k = t then nI c else tI ρ2 (x + 1) k := fun k => by
      show tI (sI ρ2 (x + 1) t (nI c)) (x + 1) k = _
      rw [rd_II, if_pos rfl]
    have at_ : ∀ k, tA (sA (sI ρ2 (x + 1) t (nI c)) (x + 2) t (some a)) (x + 2) k = if k = t then some a else tA ρ2 (x + 2) k := fun k => by
      rw [rd_AA, if_pos rfl]
      rfl
    have HM : MKt b0 (sA (sI ρ2 (x + 1) t (nI c)) (x + 2) t (some a)) x T R (t + 1) r (upz tl t c) rl (upz z t a) i0 := by
      refine ⟨⟨M1, M2, M3, M4⟩, ⟨?_, ?_, ?_, ?_, ?_⟩, ⟨A1, A2, fun q => A3 ((FC_ref (F6_2 G2 H2).1 _).mp q), fun q => A4 ((FC_ref (F6_2 G2 H2).1 _).mp q), fun q => A5 ((FC_ref (F6_2 G2 H2).1 _).mp q), fun q => A6 ((FC_ref (F6_2 G2 H2).1 _).mp q)⟩, fun k hk => ?_, fun k hk => ?_⟩
      · rw [rd_A1 _ _ _ _ (by omega)]; exact M5
      · rw [rd_A1 _ _ _ _ (by omega)]; exact M6
      · rw [rd_A1 _ _ _ _ (by omega)]; exact M7
      · rw [rd_A1 _ _ _ _ (by omega)]; exact M8
      · rw [(st x (by omega)).2.1, (ss x (by omega)).2.1]; exact M9
      · rw [it, at_]
        unfold upz
        by_cases d : k = t
        · rw [if_pos d, if_pos d, if_pos d, if_pos d]
          exact ⟨rfl, rfl⟩
        · rw [if_neg d, if_neg d, if_neg d, if_neg d]
          exact N1 k (by omega)
      · rw [(st (x + 3) (by omega)).2.1, (ss (x + 3) (by omega)).2.1]
        exact N2 k hk
    refine wp_from (F6_good b0) (F6_2 ⟨s3, by rw [(s5 (b0 + 20)).1]⟩ (F6_2 G2 H2)) (col94 H1 hc HM hl2 hcc h1 hT hR hr hrR ls (fun τ rl' k1 k2 k3 => ?_))
    have := K τ rl' (upz tl t c) (upz z t a) D2 (by rw [et]; exact k1) (by rw [et]; exact k2) k3 (by
      rw [et]
      intro k hk
      unfold upz
      by_cases d : k = t
      · rw [if_pos d, if_pos d]
        exact ⟨q, h1, by omega, by rw [d]; exact ht.symm, wa⟩
      · rw [if_neg d, if_neg d]
        obtain ⟨y1, y2, y3, y4, y5⟩ := lt k (by omega)
        exact ⟨y1, y2, by omega, y4, fun j hj => by rw [w2 _ (wz k (by omega))]; exact y5 j hj⟩) sp2 kw2 (by rw [et, eO.1]; omega) (by rw [et, eO.2]; omega)
    rwa [et] at this
end COM
