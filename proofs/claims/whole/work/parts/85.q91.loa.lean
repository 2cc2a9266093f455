/-! ===== PURE: the class's Loader: a block's words read anew ===== -/
/-- the words of a row that may be missing -/
def rwD (D : tD) (o j i : Nat) : Nat := match dP D o j with | none => 0 | some a => dW D a i
theorem rwD_mW (D : tD) (q : Nat) : mW D 0 q = rwD D 21 (q / 32) (q % 32) := rfl
/-- what a block's words are when they are read anew -/
def gW (bi : Nat → Nat) (w : Nat → Nat × Nat) (A C0 : tS) (D : tD) (r k : Nat) : Nat := if (w r).2 < 2000 ∧ nd A (w r).1 0 = 1 then (if C0 2 (34 + A 35 6 + r) = bi (se A r) then rwD D 3 (34 + A 35 6 + r) k else 0) else rwD D 21 (34 + r) k
/-- some blocks are read -/
def LD (bi : Nat → Nat) (w : Nat → Nat × Nat) (A C0 : tS) (D : tD) (G : Nat → Prop) (C : tS) : Prop := (∀ p, p ≠ 11 → p ≠ 13 → p ≠ 14 → C p = C0 p) ∧ (∀ q, q < 1088 → C 11 q = C0 11 q) ∧ ∀ r, r < 2000 → us A r → G r → C 13 (34 + r) = bi (se A r) ∧ C 14 (34 + r) = (w r).1 ∧ ∀ k, k < 32 → C 11 ((34 + r) * 32 + k) = gW bi w A C0 D r k
/-- what it begins with -/
def LZ (bi : Nat → Nat) (w : Nat → Nat × Nat) (A C0 : tS) (D : tD) : Prop := ci C0 ∧ (C0 10 7 = 34 + A 35 7 ∧ C0 10 8 = A 35 6 ∧ A 35 7 ≤ 2000 ∧ A 35 6 ≤ 4096 ∧ C0 1 8 = 34 + A 35 6 + A 35 7) ∧ (∀ r, r < 2000 → us A r → C0 12 (34 + r) = 0) ∧ (∀ q, q < 1088 → C0 11 q = mW D 0 q) ∧ TI w A ∧ okT A ∧ MR bi w (mW D 0) A ∧ ∀ x, bi x < 2147483648
theorem up2_if {A : tS} {o j x : Nat} (p q : Nat) : up2 A o j x p q = if p = o ∧ q = j then x else A p q := by
  by_cases c : p = o
  · by_cases d : q = j
    · rw [if_pos ⟨c, d⟩, c, d, up2_s]
    · rw [if_neg (fun e => d e.2), c, up2_j d]
  · rw [if_neg (fun e => c e.1), up2_o c]
section LOA
variable {b0 fu : Nat} {σ τ : tM} {bi : Nat → Nat} {w : Nat → Nat × Nat} {C C0 A : tS} {D : tD} {G G' : Nat → Prop} {n s r x : Nat}
theorem load_o {β : Type} {o j c : Nat} {k : Unit → tM → Option (β × tM)} {Q : β → tM → Prop} (h : CM b0 σ C D) (h0 : 0 < c) (h1 : c < 2034) (q : isP o j) (hu : 100 ≤ fu) (hk : ∀ τ, CM b0 τ (ldR C c (rwD D o j)) D → wp (FC b0) τ (k () τ) Q) :
    wp (FC b0) σ (omt (dP D o j) (fun a => ckO b0 σ (b0 + 10) 5 (cll (m_X5_load b0 fu (b0 + 10) (nI c) (some a) σ) k)) (ckO b0 σ (b0 + 10) 5 (cll (m_X5_load b0 fu (b0 + 10) (nI c) none σ) k))) Q := by
  have L := h.lay
  cases e : dP D o j with
  | none =>
    rw [omt_none, ckC_10 L]
    refine wp_bind (FC_good b0) (load0_c (fu := fu) h h0 h1 hu) ?_
    intro _ ρ r
    have : rwD D o j = fun _ => 0 := by
      funext i
      unfold rwD
      rw [e]
    exact hk ρ (by rw [this]; exact r)
  | some a =>
    rw [omt_some, ckC_10 L]
    refine wp_bind (FC_good b0) (loadR_c (fu := fu) h h0 h1 (h.row q e)) ?_
    intro _ ρ r
    have : rwD D o j = dW D a := by
      funext i
      unfold rwD
      rw [e]
    exact hk ρ (by rw [this]; exact r)
theorem load_n {β : Type} {c : Nat} {k : Unit → tM → Option (β × tM)} {Q : β → tM → Prop} {v : Option Nat} (hv : v = none) (h : CM b0 σ C D) (h0 : 0 < c) (h1 : c < 2034) (hu : 100 ≤ fu) (hk : ∀ τ, CM b0 τ (ldR C c (fun _ => 0)) D → wp (FC b0) τ (k () τ) Q) :
    wp (FC b0) σ (omt v (fun a => ckO b0 σ (b0 + 10) 5 (cll (m_X5_load b0 fu (b0 + 10) (nI c) (some a) σ) k)) (ckO b0 σ (b0 + 10) 5 (cll (m_X5_load b0 fu (b0 + 10) (nI c) none σ) k))) Q := by
  rw [hv, omt_none, ckC_10 h.lay]
  refine wp_bind (FC_good b0) (load0_c (fu := fu) h h0 h1 hu) ?_
  intro _ ρ r
  exact hk ρ r
theorem CM.pt (h : CM b0 σ C D) {o j : Nat} (q : isP o j) : tA σ (b0 + o) j = dP D o j := by
  obtain ⟨-, -, -, pl, d, -⟩ := h
  exact (d o j q).1
theorem baseOf_c (h : CM b0 σ C D) {c : Nat} (hc : c < 2034) : m_X1_baseOf b0 fu (b0 + 20) (nI c) σ = some (dP D 21 c, σ) := by
  have L := h.lay
  unfold m_X1_baseOf J_X1_baseOf_11 J_X1_baseOf_21
  rw [if_neg (nI_pos (by omega)), show (2034 : Int32) = nI 2034 from rfl, if_t (by omega) (by omega), if_pos hc, ckC_20 L, osm_p (rfC_20_3 L), ckC_21 L, ckI_n hc (by omega), nI_cl (by omega), h.pt (Or.inr (Or.inr ⟨rfl, hc⟩))]
  cases dP D 21 c with
  | none => exact grw_same
  | some a => exact grw_same
theorem keptSince_c (h : CM b0 σ C D) {b y : Nat} (hb : b < C 1 8) (h8 : C 1 8 ≤ 6130) (hy : y < 2147483648) : m_X0_keptSince b0 fu (b0 + 1) (nI b) (nI y) σ = some (if C 2 b = y then dP D 3 b else none, σ) := by
  have L := h.lay
  unfold m_X0_keptSince J_X0_keptSince_22 J_X0_keptSince_32
  rw [if_neg (nI_pos (by omega)), ckC_1 L, cf_1_8 h.ca, if_l (by omega) (by omega), if_neg (by omega), osm_p (rfC_1_0 L), ckC_2 L, ckI_n (by omega) (by omega), nI_cl (by omega), cd_2 h.ca, if_e (cb_2 h.ca b) hy]
  by_cases c : C 2 b = y
  · rw [if_pos c, if_pos c, osm_p (rfC_1_1 L), ckC_3 L, ckI_n (by omega) (by omega), h.pt (Or.inl ⟨rfl, by omega⟩)]
    cases dP D 3 b with
    | none => exact grw_same
    | some a => exact grw_same
  · rw [if_neg c, if_neg c]
    exact grw_same
theorem LD_mono (h : LD bi w A C0 D G C) (hg : ∀ r, r < 2000 → us A r → G' r → G r) : LD bi w A C0 D G' C := ⟨h.1, h.2.1, fun r a b c => h.2.2 r a b (hg r a b c)⟩
/-- a block more -/
theorem LD_one (h : LD bi w A C0 D G C) (z : LZ bi w A C0 D) {W : Nat → Nat} (hr : r < 2000) (hu : us A r) (hw : ∀ k, k < 32 → W k = gW bi w A C0 D r k) : LD bi w A C0 D (fun y => G y ∨ y = r) (ldR (adoC C (34 + r) (bi (se A r)) (w r).1) (34 + r) W) := by
  obtain ⟨h1, h2, h3⟩ := h
  obtain ⟨-, ⟨z1, z2, z3, z4, z5⟩, z6, -, zt, -⟩ := z
  have r7 := (zt.1 r hr hu).1
  have ad : adoC C (34 + r) (bi (se A r)) (w r).1 = up2 (up2 (up2 C 12 (34 + r) 0) 13 (34 + r) (bi (se A r))) 14 (34 + r) (w r).1 := by
    unfold adoC
    rw [h1 10 (by decide) (by decide) (by decide), if_pos ⟨by omega, by omega⟩]
  rw [ad]
  refine ⟨fun p p1 p2 p3 => ?_, fun q hq => ?_, fun y hy uy hg => ?_⟩
  · rw [ldR_o p1, up2_rown p3, up2_rown p2]
    by_cases c : p = 12
    · rw [c]
      funext q
      by_cases d : q = 34 + r
      · rw [d, up2_s, z6 r hr hu]
      · rw [up2_j d, h1 12 (by decide) (by decide) (by decide)]
    · rw [up2_rown c, h1 p p1 p2 p3]
  · have : ldR (up2 (up2 (up2 C 12 (34 + r) 0) 13 (34 + r) (bi (se A r))) 14 (34 + r) (w r).1) (34 + r) W 11 q = C 11 q := by
      unfold ldR
      rw [if_neg (by omega), up2_o (by decide), up2_o (by decide), up2_o (by decide)]
    rw [this, h2 q hq]
  · by_cases c : y = r
    · subst c
      refine ⟨?_, ?_, fun k hk => ?_⟩
      · rw [ldR_o (by decide), up2_o (by decide), up2_s]
      · rw [ldR_o (by decide), up2_s]
      · unfold ldR
        rw [if_pos ⟨rfl, by omega, by omega⟩, show (34 + y) * 32 + k - (34 + y) * 32 = k by omega]
        exact hw k hk
    · have gy : G y := by
        rcases hg with g | g
        · exact g
        · exact absurd g c
      obtain ⟨a1, a2, a3⟩ := h3 y hy uy gy
      refine ⟨?_, ?_, fun k hk => ?_⟩
      · rw [ldR_o (by decide), up2_o (by decide), up2_j (by omega), up2_o (by decide)]
        exact a1
      · rw [ldR_o (by decide), up2_j (by omega), up2_o (by decide), up2_o (by decide)]
        exact a2
      · unfold ldR
        rw [if_neg (by omega), up2_o (by decide), up2_o (by decide), up2_o (by decide)]
        exact a3 k hk
theorem LD_ci (h : LD bi w A C0 D G C) (z : LZ bi w A C0 D) : ci C := ci_cong z.1 (fun q _ => by rw [h.1 10 (by decide) (by decide) (by decide)]) (h.1 15 (by decide) (by decide) (by decide)) (h.1 16 (by decide) (by decide) (by decide)) (h.1 17 (by decide) (by decide) (by decide))
/-- a node's words are there -/
theorem LD_nw (h : LD bi w A C0 D G C) (z : LZ bi w A C0 D) {n i : Nat} (hn : n < 64) (hi : i < 16) : nwC C n i = mW D 0 (64 + n * 16 + i) := by
  unfold nwC
  rw [h.2.1 _ (by omega), z.2.2.2.1 _ (by omega)]
theorem LD_ki (h : LD bi w A C0 D G C) (z : LZ bi w A C0 D) {n : Nat} (hn : n < 64) : kiC C n = nd A n 0 := by
  have := (hd_c (C := upR C 11 (mW D 0)) z.2.2.2.2.2.1 (by rw [upR_ss]; exact z.2.2.2.2.2.2.1) hn).1
  rw [← this]
  unfold kiC
  rw [LD_nw h z hn (by omega)]
  unfold nwC
  rw [upR_ss]
theorem pv_s (x : Nat) : pv bi A (x + 1) = bi (se A x) * 65536 + (34 + x) := by
  unfold pv
  rw [if_neg (by omega), Nat.add_sub_cancel]
  omega
/-- META's block -/
theorem loadMeta_c (h : CM b0 σ C D) (l : LD bi w A C0 D G C) (z : LZ bi w A C0 D) (hn : n < 64) (hs : vs s) (hx : slo A n s = r + 1) (hm : 2000 ≤ s ∨ nd A n 0 ≠ 1) (hu : 100 ≤ fu) : wp (FC b0) σ (m_X2_loadMeta b0 fu (b0 + 23) (nI n) (lN (pv bi A (r + 1))) σ) (fun _ τ => ∃ C', CM b0 τ C' D ∧ LD bi w A C0 D (fun y => G y ∨ y = r) C') := by
  obtain ⟨a1, a2, a3⟩ := z.2.2.2.2.1.2.1 n s r hn hs hx
  have L := h.lay
  have bb := z.2.2.2.2.2.2.2 (se A r)
  have r7 := (z.2.2.2.2.1.1 r a1 a2).1
  have z1 := z.2.1.1
  have z3 := z.2.1.2.2.1
  have e1 : (bi (se A r) * 65536 + (34 + r)) % 2048 = 34 + r := by omega
  have e2 : (bi (se A r) * 65536 + (34 + r)) / 65536 = bi (se A r) := by omega
  refine wp_grw (FC_good b0) ?_
  rw [pv_s, cellOf_c, cll_some, ckC_23 L, osm_p (rfC_23_1 L), birthOf_p (by omega), cll_some, ckC_10 L, e1, e2]
  refine wp_bind (FC_good b0) (adopt_c (fu := fu) h (LD_ci l z) (by omega) bb hn) ?_
  intro _ ρ q
  have L := q.lay
  rw [ckC_23 L, osm_p (rfC_23_1 L), osm_p (rfC_23_3 L), ckC_20 L, baseOf_c q (by omega), cll_some]
  refine load_o q (by omega) (by omega) (Or.inr (Or.inr ⟨rfl, by omega⟩)) hu (fun τ t => wp_ret ((FC_good b0).1 _) ⟨_, t, ?_⟩)
  have w1 : (w r).1 = n := by rw [a3]
  have w2 : (w r).2 = s := by rw [a3]
  have := LD_one (W := rwD D 21 (34 + r)) l z a1 a2 (fun k _ => by
    unfold gW
    rw [w1, w2, if_neg (by omega)])
  rw [w1] at this
  exact this
/-- a block of a file or a directory -/
theorem loadBlock_c (h : CM b0 σ C D) (l : LD bi w A C0 D G C) (z : LZ bi w A C0 D) (hn : n < 64) (hs : s < 1064) (hx : slo A n s = x) (hu : 100 ≤ fu) : wp (FC b0) σ (m_X2_loadBlock b0 fu (b0 + 23) (nI n) (lN (pv bi A x)) σ) (fun _ τ => ∃ C', CM b0 τ C' D ∧ LD bi w A C0 D (fun y => G y ∨ w y = (n, s)) C') := by
  have L := h.lay
  have vss : vs s := Or.inl hs
  refine wp_grw (FC_good b0) ?_
  by_cases c0 : x = 0
  · have : pv bi A x = 0 := pv_0.mpr c0
    rw [this, lgz (by omega), if_pos rfl]
    refine wp_ret ((FC_good b0).1 _) ⟨C, h, LD_mono l (fun y hy uy g => ?_)⟩
    rcases g with g | g
    · exact g
    · have := (z.2.2.2.2.1.1 y hy uy).2.2.2.2
      rw [g] at this
      have : slo A n s = y + 1 := this
      omega
  obtain ⟨r, rfl⟩ : ∃ r, x = r + 1 := ⟨x - 1, by omega⟩
  obtain ⟨a1, a2, a3⟩ := z.2.2.2.2.1.2.1 n s r hn vss hx
  have bb := z.2.2.2.2.2.2.2 (se A r)
  obtain ⟨r7, -, kk, -, -⟩ := z.2.2.2.2.1.1 r a1 a2
  rw [a3] at kk
  have kk : nd A n 0 = 1 ∨ nd A n 0 = 2 := kk
  have z1 := z.2.1
  have pl : pv bi A (r + 1) < 18446744073709551616 := by rw [pv_s]; omega
  have w1 : (w r).1 = n := by rw [a3]
  have w2 : (w r).2 = s := by rw [a3]
  have one : ∀ X, LD bi w A C0 D (fun y => G y ∨ y = r) X → LD bi w A C0 D (fun y => G y ∨ w y = (n, s)) X := fun X k => LD_mono k (fun y hy uy g => by
    rcases g with g | g
    · exact Or.inl g
    · have := (z.2.2.2.2.1.1 y hy uy).2.2.2.2
      rw [g] at this
      have : slo A n s = y + 1 := this
      exact Or.inr (by omega))
  rw [lgz pl, if_neg (by rw [pv_s]; omega), ckC_23 L, osm_p (rfC_23_2 L), ckC_18 L, kind_c h.ca hn, cll_some, LD_ki l z hn]
  show wp (FC b0) σ (if nI (nd A n 0) = nI 2 then _ else _) _
  rw [if_e (by omega) (by omega)]
  by_cases c2 : nd A n 0 = 2
  · rw [if_pos c2, ckC_23 L]
    refine wp_bind (FC_good b0) (loadMeta_c h l z hn vss hx (Or.inr (by omega)) hu) ?_
    rintro _ ρ ⟨C', q1, q2⟩
    exact wp_ret ((FC_good b0).1 _) ⟨C', q1, one _ q2⟩
  · rw [if_neg c2]
    have e1 : (bi (se A r) * 65536 + (34 + r)) % 2048 = 34 + r := by omega
    have e2 : (bi (se A r) * 65536 + (34 + r)) / 65536 = bi (se A r) := by omega
    rw [pv_s, cellOf_c, cll_some, birthOf_p (by omega), cll_some, ckC_23 L, osm_p (rfC_23_1 L), ckC_10 L, e1, e2]
    refine wp_bind (FC_good b0) (adopt_c (fu := fu) h (LD_ci l z) (by omega) bb hn) ?_
    intro _ ρ q
    have L := q.lay
    have o10 : adoC C (34 + r) (bi (se A r)) n 10 = C0 10 := by rw [ado_o (by decide) (by decide) (by decide), l.1 10 (by decide) (by decide) (by decide)]
    have o1 : adoC C (34 + r) (bi (se A r)) n 1 = C0 1 := by rw [ado_o (by decide) (by decide) (by decide), l.1 1 (by decide) (by decide) (by decide)]
    have o2 : adoC C (34 + r) (bi (se A r)) n 2 = C0 2 := by rw [ado_o (by decide) (by decide) (by decide), l.1 2 (by decide) (by decide) (by decide)]
    have nb : nbC (adoC C (34 + r) (bi (se A r)) n) (34 + r) = 34 + A 35 6 + r := by
      unfold nbC
      rw [o10, if_pos (by omega)]
      omega
    rw [ckC_23 L, osm_p (rfC_23_1 L), osm_p (rfC_23_0 L), osm_p (rfC_23_1 L), ckC_10 L, numberOf_c q.ca (by omega), cll_some, ckC_1 L, nb, keptSince_c q (by rw [o1]; omega) (by rw [o1]; omega) bb, cll_some, o2]
    have fin : ∀ W : Nat → Nat, (∀ k, k < 32 → W k = gW bi w A C0 D r k) → LD bi w A C0 D (fun y => G y ∨ w y = (n, s)) (ldR (adoC C (34 + r) (bi (se A r)) n) (34 + r) W) := fun W k => by
      have := LD_one (W := W) l z a1 a2 k
      rw [w1] at this
      exact one _ this
    by_cases c : C0 2 (34 + A 35 6 + r) = bi (se A r)
    · rw [if_pos c]
      exact load_o q (by omega) (by omega) (Or.inl ⟨rfl, by omega⟩) hu (fun τ t => wp_ret ((FC_good b0).1 _) ⟨_, t, fin _ (fun k _ => by
        unfold gW
        rw [w1, w2, if_pos ⟨by omega, by omega⟩, if_pos c])⟩)
    · rw [if_neg c]
      exact load_n rfl q (by omega) (by omega) hu (fun τ t => wp_ret ((FC_good b0).1 _) ⟨_, t, fin _ (fun k _ => by
        unfold gW
        rw [w1, w2, if_pos ⟨by omega, by omega⟩, if_neg c])⟩)
end LOA
