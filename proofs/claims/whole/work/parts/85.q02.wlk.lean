/-! ===== PURE: the class's Walker, against the reference's walk ===== -/
/-- what a walk sees of the tree is alike -/
def VW (C A : tS) : Prop := (∀ n, n < 64 → kiC C n = nd A n 0) ∧ (∀ n, n < 64 → nd A n 0 = 2 → prC C n = nd A n 3 ∧ nd A n 3 < 64 ∧ nd A (nd A n 3) 0 ≠ 3) ∧
  (∀ n, n < 64 → nd A n 0 = 2 → szC C n = nd A n 1 ∧ nd A n 1 % 256 = 0 ∧ nd A n 1 ≤ 272384) ∧
  (∀ d k, d < 64 → nd A d 0 = 2 → k < eAll A d → lnE C d k = (if eN A d k = 64 then 0 else eL A d k) ∧ (eN A d k ≠ 64 → eN A d k < 64 ∧ ocC C (clE C d k) (k % 8 * 32 + 29) = eN A d k ∧ ∀ i, i < eL A d k → chE C d k i = eC A d k i)) ∧
  (∀ n, n < 64 → nd A n 0 = 3 → szC C n = nd A n 4 ∧ 1 ≤ nd A n 4 ∧ nd A n 4 ≤ 80 ∧ ∀ i, i < nd A n 4 → ocC C (2 + n / 2) ((n % 2 * 16 + 1) * 8 + i) = nd A n (5 + i) ∧ nd A n (5 + i) < 128)
theorem VW.kind {C A : tS} (h : VW C A) : ∀ n, n < 64 → kiC C n = nd A n 0 := h.1
theorem VW.par {C A : tS} (h : VW C A) : ∀ n, n < 64 → nd A n 0 = 2 → prC C n = nd A n 3 ∧ nd A n 3 < 64 ∧ nd A (nd A n 3) 0 ≠ 3 := h.2.1
theorem VW.size {C A : tS} (h : VW C A) : ∀ n, n < 64 → nd A n 0 = 2 → szC C n = nd A n 1 ∧ nd A n 1 % 256 = 0 ∧ nd A n 1 ≤ 272384 := h.2.2.1
theorem VW.ent {C A : tS} (h : VW C A) : ∀ d k, d < 64 → nd A d 0 = 2 → k < eAll A d → lnE C d k = (if eN A d k = 64 then 0 else eL A d k) ∧ (eN A d k ≠ 64 → eN A d k < 64 ∧ ocC C (clE C d k) (k % 8 * 32 + 29) = eN A d k ∧ ∀ i, i < eL A d k → chE C d k i = eC A d k i) := h.2.2.2.1
theorem VW.lnk {C A : tS} (h : VW C A) : ∀ n, n < 64 → nd A n 0 = 3 → szC C n = nd A n 4 ∧ 1 ≤ nd A n 4 ∧ nd A n 4 ≤ 80 ∧ ∀ i, i < nd A n 4 → ocC C (2 + n / 2) ((n % 2 * 16 + 1) * 8 + i) = nd A n (5 + i) ∧ nd A n (5 + i) < 128 := h.2.2.2.2
theorem sr_cong {p q : Nat → Bool} : ∀ m k, (∀ j, k ≤ j → j < k + m → p j = q j) → sr p k m = sr q k m
  | 0, _, _ => rfl
  | m + 1, k, h => by
    show (if p k = true then k else sr p (k + 1) m) = (if q k = true then k else sr q (k + 1) m)
    rw [h k (Nat.le_refl _) (by omega), sr_cong m (k + 1) (fun j h1 h2 => h j (by omega) (by omega))]
theorem VW_o {C C' A : tS} (h : VW C A) (h1 : C' 10 = C 10) (h2 : C' 11 = C 11) : VW C' A := by
  have e1 : ∀ n i, nwC C' n i = nwC C n i := fun n i => by unfold nwC; rw [h2]
  have e2 : ∀ c i, ocC C' c i = ocC C c i := fun c i => by unfold ocC; rw [h1, h2]
  have e3 : ∀ n i, ptC C' n i = ptC C n i := fun n i => by unfold ptC tbC; rw [e1, e1, e1, h2]
  have e4 : ∀ d k, clE C' d k = clE C d k := fun d k => by unfold clE; rw [e3]
  refine ⟨fun n hn => ?_, fun n hn q => ?_, fun n hn q => ?_, fun d k hd q hk => ?_, fun n hn q => ?_⟩
  · have := h.kind n hn
    unfold kiC at this ⊢
    rw [e1]; exact this
  · have := h.par n hn q
    unfold prC at this ⊢
    rw [e1]; exact this
  · have := h.size n hn q
    unfold szC at this ⊢
    rw [e1]; exact this
  · have := h.ent d k hd q hk
    unfold lnE chE at this ⊢
    rw [e4, e2, e2]
    refine ⟨this.1, fun r => ⟨(this.2 r).1, (this.2 r).2.1, fun i hi => by rw [e2]; exact (this.2 r).2.2 i hi⟩⟩
  · have := h.lnk n hn q
    unfold szC at this ⊢
    rw [e1]
    exact ⟨this.1, this.2.1, this.2.2.1, fun i hi => by rw [e2]; exact this.2.2.2 i hi⟩
/-- where a name leads from a directory, or why nowhere -/
def lkR (A : tS) (d : Nat) (c : List Nat) : Int :=
  if nd A d 0 ≠ 2 then -3 else if c = [46] then (d : Int) else if c = [46, 46] then (nd A d 3 : Int) else if 28 < c.length then -7
  else if eAll A d ≤ fA A d (fun i => c.getD i 0) c.length then -1 else (eN A d (fA A d (fun i => c.getD i 0) c.length) : Int)
section WC
variable {b0 fu : Nat} {σ τ : tM} {C A : tS} {D : tD}
theorem ci_o {C' : tS} (h : ci C) (h1 : C' 10 = C 10) (h2 : C' 15 = C 15) (h3 : C' 16 = C 16) (h4 : C' 17 = C 17) : ci C' := by
  unfold ci at h ⊢
  rw [h1, h2, h3, h4]
  exact h
theorem FC_sIr {o : Nat} {F : Nat → Int32} (h : rfO b0 σ) (ho : o < 35) : FC b0 σ (sIr σ (b0 + o) F) := ⟨Nat.le_refl _, Nat.le_refl _, fun a ha => ⟨rfl, by
  have : a ≠ b0 + o := by
    rcases ha with q | q
    · have := (h a q).1; omega
    · omega
  show va_up (tI σ) (b0 + o) F a = tI σ a
  unfold va_up
  rw [if_neg this], rfl, rfl⟩⟩
theorem CM_rowI {o : Nat} {F : Nat → Int32} {X : Nat → Nat} (h : CM b0 σ C D) (ho : isC o 0 = true) (h11 : o ≠ 11) (hF : ∀ j, F j = decC o j (X j)) (hX : ∀ j, X j < bndC o) : CM b0 (sIr σ (b0 + o) F) (upR C o X) D := by
  have l := isC_lt ho
  obtain ⟨h1, h2, h3, pl, h5⟩ := h
  have ss : ∀ x, x ≠ b0 + o → same σ (sIr σ (b0 + o) F) x := fun x hx => ⟨rfl, by
    show va_up (tI σ) (b0 + o) F x = tI σ x
    unfold va_up
    rw [if_neg hx], rfl, rfl⟩
  refine ⟨⟨h1.1, fun p j e => ?_, fun j => ?_, fun p j => ?_⟩, h2, h3, pl, DY_same h5 (Nat.le_refl _) (fun a _ q => q) (fun _ _ _ => rfl) ⟨rfl, rfl, rfl⟩ (fun a q1 _ _ _ => ss a (by omega))⟩
  · show va_up (tI σ) (b0 + o) F (b0 + p) j = decC p j (upR C o X p j)
    unfold va_up upR
    by_cases c : p = o
    · subst c
      rw [if_pos rfl, if_pos rfl]
      exact hF j
    · rw [if_neg (by omega), if_neg c]
      exact h1.2.1 p j e
  · show tL σ (b0 + 11) j = lN (upR C o X 11 j)
    unfold upR
    rw [if_neg (fun e => h11 e.symm)]
    exact h1.2.2.1 j
  · unfold upR
    split
    · rename_i e
      subst e
      exact Nat.lt_of_lt_of_le (hX j) (bndD_le _ _)
    · exact h1.2.2.2 p j
theorem isX_b {o len : Nat} (ho : isX o len) (h : CA b0 σ C) (j : Nat) : C o j < 256 := by
  rcases ho with ⟨rfl, rfl⟩ | ⟨rfl, rfl⟩ | ⟨rfl, rfl⟩
  · exact cb_25 h j
  · exact cb_29 h j
  · exact cb_31 h j
theorem isDots_c (h : CA b0 σ C) {o len : Nat} (ho : isX o len) {st l : Nat} (hst : st + l ≤ len) : m_X3_isDots b0 fu (b0 + o) (nI st) (nI l) σ = some (nI (if (l = 1 ∨ l = 2) ∧ C o st = 46 ∧ C o (st + l - 1) = 46 then 1 else 0), σ) := by
  have L := h.lay
  have h74 := L.1
  obtain ⟨tk1, tk2, tk3⟩ := tx_k ho h
  have len1 : len ≤ 760 := by rcases ho with q | q | q <;> omega
  unfold m_X3_isDots J_X3_isDots_22 J_X3_isDots_48 J_X3_isDots_49
  rw [show ckZ 0 (some ((0 : Int32), σ)) = some ((0 : Int32), σ) from rfl]
  by_cases c1 : l < 1
  · rw [if_pos (show nI l < 1 from (nI_ltP (a := l) (b := 1) (by omega) (by omega)).mpr c1), if_neg (by omega)]
    exact grw_same
  rw [if_neg (show ¬ nI l < 1 from fun r => c1 ((nI_ltP (a := l) (b := 1) (by omega) (by omega)).mp r))]
  by_cases c2 : 2 < l
  · rw [if_pos (show (2 : Int32) < nI l from (nI_ltP (a := 2) (b := l) (by omega) (by omega)).mpr c2), if_neg (by omega)]
    exact grw_same
  rw [if_neg (show ¬ (2 : Int32) < nI l from fun r => c2 ((nI_ltP (a := 2) (b := l) (by omega) (by omega)).mp r)), if_neg (nI_pos (by omega)), ckR_p tk1 ⟨by omega, by omega⟩, nI_sb (by omega), if_l (by omega) (by omega), if_pos (by omega), ckI_n (by omega) (by omega), nI_cl (by omega), tk2, nI_add, show nI (st + l) - 1 = nI (st + l - 1) from nI_sb (a := st + l) (b := 1) (by omega), ckI_n (by omega) (by omega), nI_cl (by omega), tk2, show ckZ 1 (some ((1 : Int32), σ)) = some ((1 : Int32), σ) from rfl]
  have b1 := sb_47 (isX_b ho h st)
  have b2 := sb_47 (isX_b ho h (st + l - 1))
  by_cases c3 : C o st = 46
  · rw [if_pos (b1.2.mpr c3)]
    by_cases c4 : C o (st + l - 1) = 46
    · rw [if_pos (b2.2.mpr c4), if_pos ⟨by omega, c3, c4⟩]
      exact grw_same
    · rw [if_neg (fun r => c4 (b2.2.mp r)), if_neg (fun r => c4 r.2.2)]
      exact grw_same
  · rw [if_neg (fun r => c3 (b1.2.mp r)), if_neg (fun r => c3 r.2.1)]
    exact grw_same
theorem eSl (h : CA b0 σ C) {s : Nat} (hs : C 24 3 = s) (h7 : s ≤ 760) {k : Nat} (hk : k ≤ s) (hu : 1000 ≤ fu) : m_X9_endOfSlashes b0 fu (b0 + 24) (nI k) σ = some (nI (sr (fun i => C 25 i != 47) k (s - k)), σ) := by
  have L := h.lay
  have lp : ∀ m k f, k + m = s → m < f → L_X9_endOfSlashes_6 b0 fu f (b0 + 24) (nI k) σ = some (nI (sr (fun i => C 25 i != 47) k m), σ) := by
    intro m
    induction m with
    | zero =>
      intro k f hk hf
      obtain ⟨f, rfl⟩ : ∃ q, f = q + 1 := ⟨f - 1, by omega⟩
      unfold L_X9_endOfSlashes_6 J_X9_endOfSlashes_31
      rw [ltb_def, ckC_24 L, cf_24_3 h, hs, if_l (by omega) (by omega), if_pos (by omega)]
      rfl
    | succ m ih =>
      intro k f hk hf
      obtain ⟨f, rfl⟩ : ∃ q, f = q + 1 := ⟨f - 1, by omega⟩
      have b := sb_47 (cb_25 h k)
      unfold L_X9_endOfSlashes_6 J_X9_endOfSlashes_31
      rw [ltb_def, ckC_24 L, cf_24_3 h, hs, if_l (by omega) (by omega), if_neg (by omega), osm_p (rfC_24_1 L), ckC_25 L, ckI_n (by omega) (by omega), nI_cl (by omega), cd_25 h, ltb_def, ofi]
      show _ = some (nI (if (C 25 k != 47) = true then k else sr (fun i => C 25 i != 47) (k + 1) m), σ)
      by_cases c : C 25 k = 47
      · rw [if_pos (b.1.mpr c), if_neg (by simp [c])]
        exact ih (k + 1) f (by omega) (by omega)
      · rw [if_neg (fun r => c (b.1.mp r)), if_pos (by simp [c])]
  unfold m_X9_endOfSlashes
  rw [ltb_def, if_neg (nI_pos (by omega)), lp (s - k) k fu (by omega) (by omega)]
  exact grw_same
theorem eNm (h : CA b0 σ C) {s : Nat} (hs : C 24 3 = s) (h7 : s ≤ 760) {k : Nat} (hk : k ≤ s) (hu : 1000 ≤ fu) : m_X9_endOfName b0 fu (b0 + 24) (nI k) σ = some (nI (sr (fun i => C 25 i == 47) k (s - k)), σ) := by
  have L := h.lay
  have lp : ∀ m k f, k + m = s → m < f → L_X9_endOfName_6 b0 fu f (b0 + 24) (nI k) σ = some (nI (sr (fun i => C 25 i == 47) k m), σ) := by
    intro m
    induction m with
    | zero =>
      intro k f hk hf
      obtain ⟨f, rfl⟩ : ∃ q, f = q + 1 := ⟨f - 1, by omega⟩
      unfold L_X9_endOfName_6 J_X9_endOfName_31
      rw [ltb_def, ckC_24 L, cf_24_3 h, hs, if_l (by omega) (by omega), if_pos (by omega)]
      rfl
    | succ m ih =>
      intro k f hk hf
      obtain ⟨f, rfl⟩ : ∃ q, f = q + 1 := ⟨f - 1, by omega⟩
      have b := sb_47 (cb_25 h k)
      unfold L_X9_endOfName_6 J_X9_endOfName_31
      rw [ltb_def, ckC_24 L, cf_24_3 h, hs, if_l (by omega) (by omega), if_neg (by omega), osm_p (rfC_24_1 L), ckC_25 L, ckI_n (by omega) (by omega), nI_cl (by omega), cd_25 h, ltb_def, ofi]
      show _ = some (nI (if (C 25 k == 47) = true then k else sr (fun i => C 25 i == 47) (k + 1) m), σ)
      by_cases c : C 25 k = 47
      · rw [if_pos (b.1.mpr c), if_pos (by simp [c])]
      · rw [if_neg (fun r => c (b.1.mp r)), if_neg (by simp [c])]
        exact ih (k + 1) f (by omega) (by omega)
  unfold m_X9_endOfName
  rw [ltb_def, if_neg (nI_pos (by omega)), lp (s - k) k fu (by omega) (by omega)]
  exact grw_same
/-- a name is found at the same place -/
theorem fn_eq (hV : VW C A) {d o st l : Nat} (hd : d < 64) (h2 : nd A d 0 = 2) (h1 : 1 ≤ l) : alE C d = eAll A d ∧ fnC C d o st l = fA A d (fun i => C o (st + i)) l := by
  obtain ⟨z1, z2, z3⟩ := hV.size d hd h2
  have ea : alE C d = eAll A d := by
    unfold alE eAll
    rw [hV.kind d hd, if_pos h2, z1]
    omega
  refine ⟨ea, ?_⟩
  unfold fnC fA
  rw [ea]
  refine sr_cong (eAll A d) 0 (fun k _ hk => ?_)
  obtain ⟨q1, q2⟩ := hV.ent d k hd h2 (by omega)
  unfold fE fP
  rw [q1]
  by_cases c : eN A d k = 64
  · rw [if_pos c]
    simp [c]
    intro e
    omega
  · rw [if_neg c]
    obtain ⟨r1, r2, r3⟩ := q2 c
    by_cases c2 : eL A d k = l
    · subst c2
      have e : sr (fun i => chE C d k i != C o (st + i)) 0 (eL A d k) = sr (fun i => eC A d k i != C o (st + i)) 0 (eL A d k) := sr_cong _ 0 (fun i _ hi => by rw [r3 i (by omega)])
      rw [e]
      simp [c]
    · simp [c2]
end WC
