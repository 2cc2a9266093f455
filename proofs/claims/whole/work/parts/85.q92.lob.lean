/-! ===== PURE: the class's Loader: tables and nodes ===== -/
/-- where a table's blocks stand -/
def tbs (s : Nat) : Nat := if s = 2000 then 8 else 40 + 32 * (s - 2100)
def isTb (s : Nat) : Prop := s = 2000 ∨ (2100 ≤ s ∧ s < 2132)
section LOB
variable {b0 fu : Nat} {σ τ : tM} {bi : Nat → Nat} {w : Nat → Nat × Nat} {C C0 A : tS} {D : tD} {G G' : Nat → Prop} {n s r x k : Nat}
theorem slo_tb (hs : isTb s) (hk : k < 32) : slo A n (tbs s + k) = if slo A n s = 0 then 0 else pt A (slo A n s - 1) k := by
  rcases hs with rfl | ⟨h1, h2⟩
  · have e : tbs 2000 + k = 8 + k := rfl
    have e2 : slo A n 2000 = nd A n 93 := rfl
    have lf : leafA A n (8 + k) = nd A n 93 := by
      unfold leafA
      rw [if_pos (by omega)]
    have pl : plA (8 + k) = k := by
      unfold plA
      rw [if_pos (by omega)]
      omega
    rw [e, e2]
    unfold slo hasA
    rw [if_neg (by omega), if_neg (by omega), if_neg (by omega), if_neg (by omega), lf, pl]
  · have e : tbs s = 40 + 32 * (s - 2100) := by
      unfold tbs
      rw [if_neg (by omega)]
    have e2 : slo A n s = if nd A n 94 = 0 then 0 else pt A (nd A n 94 - 1) (s - 2100) := by
      unfold slo
      rw [if_neg (by omega), if_neg (by omega), if_pos h1]
    have lf : leafA A n (40 + 32 * (s - 2100) + k) = if nd A n 94 = 0 then 0 else pt A (nd A n 94 - 1) (s - 2100) := by
      unfold leafA
      rw [if_neg (by omega), show (40 + 32 * (s - 2100) + k - 40) / 32 = s - 2100 by omega]
    have pl : plA (40 + 32 * (s - 2100) + k) = k := by
      unfold plA
      rw [if_neg (by omega)]
      omega
    rw [e, e2]
    unfold slo hasA
    rw [if_neg (by omega), if_neg (by omega), if_neg (by omega), if_neg (by omega), lf, pl]
theorem tbs_lt (hs : isTb s) (hk : k < 32) : tbs s + k < 1064 := by
  rcases hs with rfl | ⟨h1, h2⟩
  · have e : tbs 2000 + k = 8 + k := rfl
    omega
  · unfold tbs
    rw [if_neg (by omega)]
    omega
theorem isTb_vs (hs : isTb s) : vs s := by
  unfold vs
  unfold isTb at hs
  omega
/-- a word of a table that has been read -/
theorem LD_tb (l : LD bi w A C0 D G C) (z : LZ bi w A C0 D) (hn : n < 64) (hs : vs s) (h2 : 2000 ≤ s) (hx : slo A n s = r + 1) (hg : G r) (hk : k < 32) : woC C (34 + r) k = pv bi A (pt A r k) := by
  obtain ⟨a1, a2, a3⟩ := z.2.2.2.2.1.2.1 n s r hn hs hx
  have r7 := (z.2.2.2.2.1.1 r a1 a2).1
  have w2 : (w r).2 = s := by rw [a3]
  unfold woC
  rw [l.1 10 (by decide) (by decide) (by decide), if_pos (by have := z.2.1.1; omega), (l.2.2 r a1 a2 hg).2.2 k hk]
  unfold gW
  rw [if_neg (by omega)]
  have := (z.2.2.2.2.2.2.1.2.2.2 r a1 a2).1 (by omega) k hk
  rw [rwD_mW, show ((34 + r) * 32 + k) / 32 = 34 + r by omega, show ((34 + r) * 32 + k) % 32 = k by omega] at this
  exact this
theorem ldT16 (z : LZ bi w A C0 D) (hn : n < 64) (hs : isTb s) (hx : slo A n s = r + 1) (hu : 100 ≤ fu) : ∀ m k f σ C, CM b0 σ C D → LD bi w A C0 D (fun y => (G y ∨ y = r) ∨ ∃ i, i < k ∧ w y = (n, tbs s + i)) C → k + m = 32 → m < f → wp (FC b0) σ (L_X2_loadTable_16 b0 fu f (b0 + 23) (nI n) (lN (pv bi A (r + 1))) (nI k) σ) (fun _ τ => ∃ C', CM b0 τ C' D ∧ LD bi w A C0 D (fun y => (G y ∨ y = r) ∨ ∃ i, i < 32 ∧ w y = (n, tbs s + i)) C') := by
  obtain ⟨a1, a2, a3⟩ := z.2.2.2.2.1.2.1 n s r hn (isTb_vs hs) hx
  have h20 : 2000 ≤ s := by
    unfold isTb at hs
    omega
  intro m
  induction m with
  | zero =>
    intro k f σ C h l hk hf
    obtain ⟨f, rfl⟩ : ∃ g, f = g + 1 := ⟨f - 1, by omega⟩
    have e : k = 32 := by omega
    subst e
    unfold L_X2_loadTable_16
    rw [ltb_def, show (32 : Int32) = nI 32 from rfl, if_l (by omega) (by omega), if_pos (by omega)]
    exact wp_ret ((FC_good b0).1 _) ⟨C, h, l⟩
  | succ m ih =>
    intro k f σ C h l hk hf
    obtain ⟨f, rfl⟩ : ∃ g, f = g + 1 := ⟨f - 1, by omega⟩
    have L := h.lay
    have sl := slo_tb (A := A) (n := n) (k := k) hs (by omega)
    rw [hx, if_neg (by omega), Nat.add_sub_cancel] at sl
    unfold L_X2_loadTable_16
    rw [ltb_def, show (32 : Int32) = nI 32 from rfl, if_l (by omega) (by omega), if_neg (by omega), ckC_23 L, osm_p (rfC_23_1 L), cellOf_c, cll_some, ckC_10 L, pv_s, show (bi (se A r) * 65536 + (34 + r)) % 2048 = 34 + r by omega, word_c h.ca (LD_ci l z) (by omega) (by omega), cll_some, ckC_23 L, LD_tb l z hn (isTb_vs hs) h20 hx (Or.inl (Or.inr rfl)) (by omega)]
    refine wp_bind (FC_good b0) (loadBlock_c h l z hn (tbs_lt hs (by omega)) sl hu) ?_
    rintro _ ρ ⟨C', q1, q2⟩
    rw [ltb_def, ofi, ← pv_s]
    refine ih (k + 1) f ρ C' q1 (LD_mono q2 (fun y _ _ g => ?_)) (by omega) (by omega)
    rcases g with g | ⟨i, hi, g⟩
    · exact Or.inl (Or.inl g)
    · by_cases c : i = k
      · rw [c] at g
        exact Or.inr g
      · exact Or.inl (Or.inr ⟨i, by omega, g⟩)
/-- a table and its blocks -/
theorem loadTable_c (h : CM b0 σ C D) (l : LD bi w A C0 D G C) (z : LZ bi w A C0 D) (hn : n < 64) (hs : isTb s) (hx : slo A n s = x) (hu : 100 ≤ fu) : wp (FC b0) σ (m_X2_loadTable b0 fu (b0 + 23) (nI n) (lN (pv bi A x)) σ) (fun _ τ => ∃ C', CM b0 τ C' D ∧ LD bi w A C0 D (fun y => G y ∨ w y = (n, s) ∨ ∃ i, i < 32 ∧ w y = (n, tbs s + i)) C') := by
  have L := h.lay
  have vss := isTb_vs hs
  refine wp_grw (FC_good b0) ?_
  have up : ∀ y t, y < 2000 → us A y → w y = (n, t) → slo A n t = y + 1 := fun y t a b c => by
    have := (z.2.2.2.2.1.1 y a b).2.2.2.2
    rw [c] at this
    exact this
  by_cases c0 : x = 0
  · have : pv bi A x = 0 := pv_0.mpr c0
    rw [this, lgz (by omega), if_pos rfl]
    refine wp_ret ((FC_good b0).1 _) ⟨C, h, LD_mono l (fun y hy uy g => ?_)⟩
    rcases g with g | g | ⟨i, hi, g⟩
    · exact g
    · have := up y s hy uy g
      omega
    · have := up y _ hy uy g
      rw [slo_tb hs hi, hx, if_pos c0] at this
      omega
  obtain ⟨r, rfl⟩ : ∃ r, x = r + 1 := ⟨x - 1, by omega⟩
  have bb := z.2.2.2.2.2.2.2 (se A r)
  obtain ⟨a1, a2, a3⟩ := z.2.2.2.2.1.2.1 n s r hn vss hx
  have h20 : 2000 ≤ s := by
    unfold isTb at hs
    omega
  rw [lgz (by rw [pv_s]; omega), if_neg (by rw [pv_s]; omega), ckC_23 L]
  refine wp_bind (FC_good b0) (loadMeta_c h l z hn vss hx (Or.inl h20) hu) ?_
  rintro _ ρ ⟨C', q1, q2⟩
  have z0 : (0 : Int32) = nI 0 := rfl
  rw [z0]
  refine wp_mono (ldT16 (G := G) z hn hs hx hu 32 0 fu ρ C' q1 (LD_mono q2 (fun y _ _ g => ?_)) (by omega) (by omega)) ?_
  · rcases g with g | ⟨i, hi, _⟩
    · exact g
    · omega
  · rintro _ τ _ ⟨C2, p1, p2⟩
    refine ⟨C2, p1, LD_mono p2 (fun y hy uy g => ?_)⟩
    rcases g with g | g | g
    · exact Or.inl (Or.inl g)
    · have := up y s hy uy g
      exact Or.inl (Or.inr (by omega))
    · exact Or.inr g
theorem ldN71 (z : LZ bi w A C0 D) (hn : n < 64) (hx : slo A n 2001 = r + 1) (hu : 100 ≤ fu) : ∀ m k f σ C, CM b0 σ C D → LD bi w A C0 D (fun y => (G y ∨ y = r) ∨ ∃ q, q < k ∧ (w y = (n, 2100 + q) ∨ ∃ i, i < 32 ∧ w y = (n, tbs (2100 + q) + i))) C → k + m = 32 → m < f → wp (FC b0) σ (L_X2_loadNode_71 b0 fu f (b0 + 23) (nI n) (lN (pv bi A (r + 1))) (nI k) σ) (fun _ τ => ∃ C', CM b0 τ C' D ∧ LD bi w A C0 D (fun y => (G y ∨ y = r) ∨ ∃ q, q < 32 ∧ (w y = (n, 2100 + q) ∨ ∃ i, i < 32 ∧ w y = (n, tbs (2100 + q) + i))) C') := by
  have vss : vs 2001 := by
    unfold vs
    omega
  intro m
  induction m with
  | zero =>
    intro k f σ C h l hk hf
    obtain ⟨f, rfl⟩ : ∃ g, f = g + 1 := ⟨f - 1, by omega⟩
    have e : k = 32 := by omega
    subst e
    unfold L_X2_loadNode_71 J_X2_loadNode_102
    rw [ltb_def, show (32 : Int32) = nI 32 from rfl, if_l (by omega) (by omega), if_pos (by omega)]
    exact wp_ret ((FC_good b0).1 _) ⟨C, h, l⟩
  | succ m ih =>
    intro k f σ C h l hk hf
    obtain ⟨f, rfl⟩ : ∃ g, f = g + 1 := ⟨f - 1, by omega⟩
    have L := h.lay
    obtain ⟨a1, a2, a3⟩ := z.2.2.2.2.1.2.1 n 2001 r hn vss hx
    have e94 : nd A n 94 = r + 1 := hx
    have sl : slo A n (2100 + k) = pt A r k := by
      unfold slo
      rw [if_neg (by omega), if_neg (by omega), if_pos (by omega), e94, if_neg (by omega), show r + 1 - 1 = r by omega, show 2100 + k - 2100 = k by omega]
    unfold L_X2_loadNode_71
    rw [ltb_def, show (32 : Int32) = nI 32 from rfl, if_l (by omega) (by omega), if_neg (by omega), ckC_23 L, osm_p (rfC_23_1 L), cellOf_c, cll_some, ckC_10 L, pv_s, show (bi (se A r) * 65536 + (34 + r)) % 2048 = 34 + r by omega, word_c h.ca (LD_ci l z) (by omega) (by omega), cll_some, ckC_23 L, LD_tb l z hn vss (by omega) hx (Or.inl (Or.inr rfl)) (by omega)]
    refine wp_bind (FC_good b0) (loadTable_c h l z hn (Or.inr ⟨by omega, by omega⟩) sl hu) ?_
    rintro _ ρ ⟨C', q1, q2⟩
    rw [ltb_def, ofi, ← pv_s]
    refine ih (k + 1) f ρ C' q1 (LD_mono q2 (fun y _ _ g => ?_)) (by omega) (by omega)
    rcases g with g | ⟨i, hi, g⟩
    · exact Or.inl (Or.inl g)
    · by_cases c : i = k
      · rw [c] at g
        exact Or.inr g
      · exact Or.inl (Or.inr ⟨i, by omega, g⟩)
/-- all of a node's blocks -/
theorem ldN2 (z : LZ bi w A C0 D) (hn : n < 64) (h12 : nd A n 0 = 1 ∨ nd A n 0 = 2) (hu : 100 ≤ fu) : ∀ m k f σ C, CM b0 σ C D → LD bi w A C0 D (fun y => G y ∨ ∃ i, i < k ∧ w y = (n, i)) C → k + m = 8 → m < f → wp (FC b0) σ (L_X2_loadNode_2 b0 fu f (b0 + 23) (nI n) (nI k) σ) (fun _ τ => ∃ C', CM b0 τ C' D ∧ LD bi w A C0 D (fun y => G y ∨ (w y).1 = n) C') := by
  have nw : ∀ {C : tS} {G : Nat → Prop} i, LD bi w A C0 D G C → i < 10 → nwC C n (1 + i) = pv bi A (nd A n (85 + i)) := fun i l hi => by
    rw [LD_nw l z hn (by omega)]
    exact (z.2.2.2.2.2.2.1.2.2.1 n hn).2.2.1 (by omega) i hi
  intro m
  induction m with
  | zero =>
    intro k f σ C h l hk hf
    obtain ⟨f, rfl⟩ : ∃ g, f = g + 1 := ⟨f - 1, by omega⟩
    have e : k = 8 := by omega
    subst e
    have L := h.lay
    unfold L_X2_loadNode_2 J_X2_loadNode_102
    rw [ltb_def, show (8 : Int32) = nI 8 from rfl, if_l (by omega) (by omega), if_pos (by omega), ckC_23 L, osm_p (rfC_23_2 L), ckC_18 L, show (9 : Int32) = nI 9 from rfl, nodeWord_c h.ca hn (by omega), cll_some, ckC_23 L, show nwC C n 9 = pv bi A (nd A n 93) from nw 8 l (by omega)]
    refine wp_bind (FC_good b0) (loadTable_c (s := 2000) h l z hn (Or.inl rfl) rfl hu) ?_
    rintro _ ρ ⟨C', q1, q2⟩
    have L := q1.lay
    rw [ckC_23 L, osm_p (rfC_23_2 L), ckC_18 L, show (10 : Int32) = nI 10 from rfl, nodeWord_c q1.ca hn (by omega), cll_some, lgz (nw_lt q1.ca n 10), show nwC C' n 10 = pv bi A (nd A n 94) from nw 9 q2 (by omega)]
    -- what stands in the node's own places, and behind its tables
    have all : ∀ y, y < 2000 → us A y → (w y).1 = n → (∃ i, i < 8 ∧ w y = (n, i)) ∨ w y = (n, 2000) ∨ (∃ i, i < 32 ∧ w y = (n, tbs 2000 + i)) ∨ w y = (n, 2001) ∨ ∃ q, q < 32 ∧ (w y = (n, 2100 + q) ∨ ∃ i, i < 32 ∧ w y = (n, tbs (2100 + q) + i)) := by
      intro y hy uy e
      have v := (z.2.2.2.2.1.1 y hy uy).2.2.2.1
      have e2 : ∀ t, (w y).2 = t → w y = (n, t) := fun t et => by rw [← e, ← et]
      unfold vs at v
      rcases v with v | v | v | v
      · by_cases c1 : (w y).2 < 8
        · exact Or.inl ⟨_, c1, e2 _ rfl⟩
        · by_cases c2 : (w y).2 < 40
          · refine Or.inr (Or.inr (Or.inl ⟨(w y).2 - 8, by omega, e2 _ ?_⟩))
            show (w y).2 = 8 + ((w y).2 - 8)
            omega
          · refine Or.inr (Or.inr (Or.inr (Or.inr ⟨((w y).2 - 40) / 32, by omega, Or.inr ⟨((w y).2 - 40) % 32, by omega, e2 _ ?_⟩⟩)))
            unfold tbs
            rw [if_neg (by omega)]
            omega
      · exact Or.inr (Or.inl (e2 _ v))
      · exact Or.inr (Or.inr (Or.inr (Or.inl (e2 _ v))))
      · exact Or.inr (Or.inr (Or.inr (Or.inr ⟨(w y).2 - 2100, by omega, Or.inl (e2 _ (by omega))⟩)))
    have up : ∀ y t, y < 2000 → us A y → w y = (n, t) → slo A n t = y + 1 := fun y t a b c => by
      have := (z.2.2.2.2.1.1 y a b).2.2.2.2
      rw [c] at this
      exact this
    have e01 : slo A n 2001 = nd A n 94 := rfl
    by_cases c0 : nd A n 94 = 0
    · rw [if_pos (pv_0.mpr c0)]
      refine wp_ret ((FC_good b0).1 _) ⟨C', q1, LD_mono q2 (fun y hy uy g => ?_)⟩
      rcases g with g | g
      · exact Or.inl (Or.inl g)
      · rcases all y hy uy g with g | g | g | g | ⟨q, hq, g | ⟨i, hi, g⟩⟩
        · exact Or.inl (Or.inr g)
        · exact Or.inr (Or.inl g)
        · exact Or.inr (Or.inr g)
        · have := up y _ hy uy g
          omega
        · have := up y _ hy uy g
          unfold slo at this
          rw [if_neg (by omega), if_neg (by omega), if_pos (by omega), if_pos c0] at this
          omega
        · have := up y _ hy uy g
          rw [slo_tb (Or.inr ⟨by omega, by omega⟩) hi] at this
          have e : slo A n (2100 + q) = 0 := by
            unfold slo
            rw [if_neg (by omega), if_neg (by omega), if_pos (by omega), if_pos c0]
          rw [e, if_pos rfl] at this
          omega
    · obtain ⟨r, er⟩ : ∃ r, nd A n 94 = r + 1 := ⟨nd A n 94 - 1, by omega⟩
      rw [if_neg (fun e => c0 (pv_0.mp e)), ckC_23 L, er]
      have v1 : vs 2001 := by
        unfold vs
        omega
      refine wp_bind (FC_good b0) (loadMeta_c q1 q2 z hn v1 (e01.trans er) (Or.inl (by omega)) hu) ?_
      rintro _ ρ2 ⟨C2, p1, p2⟩
      have z0 : (0 : Int32) = nI 0 := rfl
      rw [z0]
      refine wp_mono (ldN71 (G := fun y => (G y ∨ ∃ i, i < 8 ∧ w y = (n, i)) ∨ w y = (n, 2000) ∨ ∃ i, i < 32 ∧ w y = (n, tbs 2000 + i)) z hn (e01.trans er) hu 32 0 fu ρ2 C2 p1 (LD_mono p2 (fun y _ _ g => ?_)) (by omega) (by omega)) ?_
      · rcases g with g | ⟨i, hi, _⟩
        · exact g
        · omega
      · rintro _ τ _ ⟨C3, t1, t2⟩
        refine ⟨C3, t1, LD_mono t2 (fun y hy uy g => ?_)⟩
        rcases g with g | g
        · exact Or.inl (Or.inl (Or.inl (Or.inl g)))
        · rcases all y hy uy g with g | g | g | g | g
          · exact Or.inl (Or.inl (Or.inl (Or.inr g)))
          · exact Or.inl (Or.inl (Or.inr (Or.inl g)))
          · exact Or.inl (Or.inl (Or.inr (Or.inr g)))
          · have := up y _ hy uy g
            exact Or.inl (Or.inr (by omega))
          · exact Or.inr g
  | succ m ih =>
    intro k f σ C h l hk hf
    obtain ⟨f, rfl⟩ : ∃ g, f = g + 1 := ⟨f - 1, by omega⟩
    have L := h.lay
    have sl : slo A n k = nd A n (85 + k) := by
      unfold slo hasA
      rw [if_neg (by omega), if_neg (by omega), if_neg (by omega), if_pos (by omega)]
    unfold L_X2_loadNode_2
    rw [ltb_def, show (8 : Int32) = nI 8 from rfl, if_l (by omega) (by omega), if_neg (by omega), ckC_23 L, osm_p (rfC_23_2 L), ckC_18 L, show (1 : Int32) + nI k = nI (1 + k) from nI_add 1 k, nodeWord_c h.ca hn (by omega), cll_some, ckC_23 L, nw k l (by omega)]
    refine wp_bind (FC_good b0) (loadBlock_c h l z hn (by omega) sl hu) ?_
    rintro _ ρ ⟨C', q1, q2⟩
    rw [ltb_def, ofi]
    refine ih (k + 1) f ρ C' q1 (LD_mono q2 (fun y _ _ g => ?_)) (by omega) (by omega)
    rcases g with g | ⟨i, hi, g⟩
    · exact Or.inl (Or.inl g)
    · by_cases c : i = k
      · rw [c] at g
        exact Or.inr g
      · exact Or.inl (Or.inr ⟨i, by omega, g⟩)
end LOB
