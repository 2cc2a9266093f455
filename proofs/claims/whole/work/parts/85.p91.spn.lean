/-! ===== PURE: the class's Space: isZeroFrom, setSpan ===== -/
/-- all bytes of a cell are 0 from one on -/
def zfC (C : tS) (c i : Nat) : Bool := decide (i + (256 - i) ≤ sr (fun j => ocC C c j != 0) i (256 - i))
def spnC (c v : Nat) : Nat → Nat → tS → tS
  | _, 0, C => C
  | i, m + 1, C => spnC c v (i + 1) m (sooC C c i v)
section SN
variable {b0 fu : Nat} {σ τ : tM} {C : tS} {D : tD}
theorem sr_all {p : Nat → Bool} : ∀ m k, (k + m ≤ sr p k m ↔ ∀ j, k ≤ j → j < k + m → p j = false)
  | 0, k => ⟨fun _ j h1 h2 => by omega, fun _ => Nat.le_refl _⟩
  | m + 1, k => by
    have ih := sr_all (p := p) m (k + 1)
    rw [show sr p k (m + 1) = if p k = true then k else sr p (k + 1) m from rfl]
    cases e : p k with
    | true =>
      rw [if_pos rfl]
      refine ⟨fun q => by omega, fun q => ?_⟩
      have := q k (Nat.le_refl _) (by omega)
      rw [e] at this
      cases this
    | false =>
      rw [if_neg (by decide), show k + (m + 1) = k + 1 + m by omega, ih]
      refine ⟨fun q j h1 h2 => ?_, fun q j h1 h2 => q j (by omega) h2⟩
      by_cases c : j = k
      · rw [c]
        exact e
      · exact q j (by omega) h2
theorem zf_iff {c i : Nat} : zfC C c i = true ↔ ∀ j, j < 256 → i ≤ j → ocC C c j = 0 := by
  unfold zfC
  rw [decide_eq_true_iff, sr_all]
  refine ⟨fun q j h1 h2 => ?_, fun q j h1 h2 => ?_⟩
  · have := q j h2 (by omega)
    simpa using this
  · have := q j (by omega) h1
    simp [this]
theorem wo0 (h : CA b0 σ C) {c i : Nat} (hi : i < 32) : woC C c i = 0 ↔ ∀ k, k < 8 → ocC C c (8 * i + k) = 0 := by
  unfold woC ocC
  by_cases cc : c < C 10 7
  · rw [if_pos cc]
    constructor
    · intro e k hk
      rw [if_pos cc, show (8 * i + k) / 8 = i by omega, e]
      unfold by8
      rw [Nat.zero_div]
    · intro q
      refine by8_ext (cb_11 h _) (by decide) (fun k hk => ?_)
      have := q k hk
      rw [if_pos cc, show (8 * i + k) / 8 = i by omega, show (8 * i + k) % 8 = k by omega] at this
      rw [this]
      unfold by8
      rw [Nat.zero_div]
  · rw [if_neg cc]
    exact ⟨fun _ k _ => by rw [if_neg cc], fun _ => rfl⟩
theorem zf6 (h : CA b0 σ C) (hc : ci C) {c : Nat} (hx : c < 2147483648) : ∀ m i f, i + m = 256 → m < f → L_X5_isZeroFrom_6 b0 fu f (b0 + 10) (nI c) (nI i) σ = some (nI (b2n (zfC C c i)), σ) := by
  have L := h.lay
  intro m
  induction m using Nat.strongRecOn with
  | _ m ih =>
    intro i f hi hf
    obtain ⟨f, rfl⟩ : ∃ q, f = q + 1 := ⟨f - 1, by omega⟩
    unfold L_X5_isZeroFrom_6
    rw [ltb_def, show (256 : Int32) = nI 256 from rfl, if_l (by omega) (by omega)]
    by_cases c0 : 256 ≤ i
    · have : zfC C c i = true := by
        exact zf_iff.mpr (fun j h1 h2 => by omega)
      rw [if_pos c0, this]
      rfl
    · rw [if_neg c0, i_and7 (by omega)]
      show (if nI (i % 8) = nI 0 then _ else _) = _
      rw [if_e (by omega) (by omega)]
      by_cases c1 : i % 8 = 0
      · rw [if_pos c1, ckC_10 L, i_shr3 (by omega), word_c h hc hx (by omega), cll_some, lgz (by unfold woC; split; exact cb_11 h _; decide)]
        have w := wo0 h (c := c) (i := i / 8) (by omega)
        by_cases c2 : woC C c (i / 8) = 0
        · rw [if_pos c2, ltb_def, show nI i + Int32.ofInt 8 = nI (i + 8) from nI_add i 8, ih (m - 8) (by omega) (i + 8) f (by omega) (by omega)]
          have e : zfC C c (i + 8) = zfC C c i := by
            refine Bool.eq_iff_iff.mpr (zf_iff.trans (Iff.trans ⟨fun q j h1 h2 => ?_, fun q j h1 h2 => q j h1 (by omega)⟩ zf_iff.symm))
            by_cases c3 : i + 8 ≤ j
            · exact q j h1 c3
            · have := w.mp c2 (j - i) (by omega)
              rw [show 8 * (i / 8) + (j - i) = j by omega] at this
              exact this
          rw [e]
        · have : zfC C c i = false := Bool.eq_false_iff.mpr (fun e => c2 (w.mpr (fun k hk => zf_iff.mp e _ (by omega) (by omega))))
          rw [if_neg c2, this]
          rfl
      · rw [if_neg c1, ckC_10 L, octet_c h hc hx (by omega), cll_some]
        have b1 : ocC C c i < 256 := by
          unfold ocC
          split
          · exact by8_lt _ _
          · decide
        show (if nI (ocC C c i) = nI 0 then _ else _) = _
        rw [if_e (by omega) (by omega)]
        by_cases c2 : ocC C c i = 0
        · rw [if_pos c2, ltb_def, ofi, ih (m - 1) (by omega) (i + 1) f (by omega) (by omega)]
          have e : zfC C c (i + 1) = zfC C c i := by
            refine Bool.eq_iff_iff.mpr (zf_iff.trans (Iff.trans ⟨fun q j h1 h2 => ?_, fun q j h1 h2 => q j h1 (by omega)⟩ zf_iff.symm))
            by_cases c3 : i + 1 ≤ j
            · exact q j h1 c3
            · rw [show j = i by omega]
              exact c2
          rw [e]
        · have : zfC C c i = false := Bool.eq_false_iff.mpr (fun e => c2 (zf_iff.mp e i (by omega) (Nat.le_refl _)))
          rw [if_neg c2, this]
          rfl
theorem isZeroFrom_c (h : CA b0 σ C) (hc : ci C) {c i : Nat} (hx : c < 2147483648) (hi : i ≤ 256) (hu : 1000 ≤ fu) : m_X5_isZeroFrom b0 fu (b0 + 10) (nI c) (nI i) σ = some (nI (b2n (zfC C c i)), σ) := by
  unfold m_X5_isZeroFrom
  rw [ltb_def, if_neg (nI_pos (by omega)), zf6 h hc hx (256 - i) i fu (by omega) (by omega)]
  exact grw_same
theorem soo_o {c i v p : Nat} (h : p ≠ 11) : sooC C c i v p = C p := by
  unfold sooC
  split
  · exact up2_rown h
  · rfl
theorem spn_o {c v p : Nat} (h : p ≠ 11) : ∀ m i (C : tS), spnC c v i m C p = C p
  | 0, _, _ => rfl
  | m + 1, i, C => by
    unfold spnC
    rw [spn_o h m, soo_o h]
theorem spn_add {c v : Nat} : ∀ m i k (C : tS), spnC c v i (m + k) C = spnC c v (i + m) k (spnC c v i m C)
  | 0, i, k, C => by rw [Nat.zero_add, Nat.add_zero]; rfl
  | m + 1, i, k, C => by
    rw [show m + 1 + k = (m + k) + 1 by omega]
    show spnC c v (i + 1) (m + k) (sooC C c i v) = spnC c v (i + (m + 1)) k (spnC c v (i + 1) m (sooC C c i v))
    rw [spn_add m, show i + 1 + m = i + (m + 1) by omega]
/-- all words: what a byte is set to -/
theorem soo_11 {c i v j : Nat} (hc : 0 < c ∧ c < C 10 7) : sooC C c i v 11 j = if j = c * 32 + i / 8 then setF (C 11 j) (8 * (i % 8)) 8 (v % 256) else C 11 j := by
  unfold sooC
  rw [if_pos hc]
  by_cases e : j = c * 32 + i / 8
  · rw [if_pos e, e, up2_s]
  · rw [if_neg e, up2_j e]
theorem by8_k {v k : Nat} (hv : v < 256) (hk : k < 8) : by8 (v * 72340172838076673) k = v := by
  have : ∀ y : Fin 256, ∀ j : Fin 8, by8 (y.val * 72340172838076673) j.val = y.val := by decide +kernel
  exact this ⟨v, hv⟩ ⟨k, hk⟩
/-- eight bytes of one word -/
theorem spn8 {c v i : Nat} (h : okC C) (hc : 0 < c ∧ c < C 10 7) (hi : i % 8 = 0) (hv : v < 256) : spnC c v i 8 C = up2 C 11 (c * 32 + i / 8) (v * 72340172838076673) := by
  have key : ∀ m, m ≤ 8 → ∀ j, spnC c v i m C 11 j = if j = c * 32 + i / 8 then spnC c v i m C 11 (c * 32 + i / 8) else C 11 j := by
    intro m
    induction m with
    | zero =>
      intro _ j
      by_cases e : j = c * 32 + i / 8
      · rw [if_pos e, e]
      · rw [if_neg e]
        rfl
    | succ m ih =>
      intro hm j
      have e10 : spnC c v i m C 10 = C 10 := spn_o (by decide) _ _ _
      rw [show m + 1 = m + 1 from rfl, spn_add m i 1]
      show sooC (spnC c v i m C) c (i + m) v 11 j = if j = _ then sooC (spnC c v i m C) c (i + m) v 11 _ else _
      rw [soo_11 (by rw [e10]; exact hc), soo_11 (by rw [e10]; exact hc), show (i + m) / 8 = i / 8 by omega, if_pos rfl]
      by_cases e : j = c * 32 + i / 8
      · rw [if_pos e, if_pos e, e]
      · rw [if_neg e, if_neg e, ih (by omega), if_neg e]
  have byt : ∀ m, m ≤ 8 → spnC c v i m C 11 (c * 32 + i / 8) < 18446744073709551616 ∧ ∀ k, k < 8 → by8 (spnC c v i m C 11 (c * 32 + i / 8)) k = if k < m then v else by8 (C 11 (c * 32 + i / 8)) k := by
    intro m
    induction m with
    | zero =>
      intro _
      exact ⟨h 11 _, fun k _ => by rw [if_neg (by omega)]; rfl⟩
    | succ m ih =>
      intro hm
      obtain ⟨i1, i2⟩ := ih (by omega)
      have e10 : spnC c v i m C 10 = C 10 := spn_o (by decide) _ _ _
      have es : spnC c v i (m + 1) C 11 (c * 32 + i / 8) = setF (spnC c v i m C 11 (c * 32 + i / 8)) (8 * m) 8 v := by
        rw [spn_add m i 1]
        show sooC (spnC c v i m C) c (i + m) v 11 (c * 32 + i / 8) = _
        rw [soo_11 (by rw [e10]; exact hc), show (i + m) / 8 = i / 8 by omega, if_pos rfl, show (i + m) % 8 = m by omega, Nat.mod_eq_of_lt hv]
      rw [es]
      refine ⟨setF_lt (d := 8) hv (by omega) i1, fun k hk => ?_⟩
      by_cases e : k = m
      · rw [e, by8_set hv, if_pos (by omega)]
      · rw [by8_oth hv e, i2 k hk]
        by_cases e2 : k < m
        · rw [if_pos e2, if_pos (by omega)]
        · rw [if_neg e2, if_neg (by omega)]
  funext p q
  by_cases ep : p = 11
  · subst ep
    rw [key 8 (by omega)]
    by_cases e : q = c * 32 + i / 8
    · rw [if_pos e, e, up2_s]
      refine by8_ext (byt 8 (by omega)).1 (by omega) (fun k hk => ?_)
      rw [(byt 8 (by omega)).2 k hk, if_pos hk]
      exact (by8_k hv hk).symm
    · rw [if_neg e, up2_j e]
  · rw [spn_o ep, up2_o ep]
theorem ci_soo {c i v : Nat} (h : ci C) : ci (sooC C c i v) := by
  unfold sooC
  split
  · exact ci_11 h
  · exact h
theorem ss29 {c v e : Nat} (hx : c < 2147483648) (he : e ≤ 256) (hv : v < 256) : ∀ m i f σ C, CM b0 σ C D → ci C → i + m = e → m < f → wp (FC b0) σ (L_X5_setSpan_29 b0 fu f (b0 + 10) (nI c) (nI v) (lN (v * 72340172838076673)) (nI e) (nI i) σ) (fun _ τ => CM b0 τ (spnC c v i m C) D) := by
  intro m
  induction m using Nat.strongRecOn with
  | _ m ih =>
    intro i f σ C h hc hi hf
    obtain ⟨f, rfl⟩ : ∃ q, f = q + 1 := ⟨f - 1, by omega⟩
    have L := h.lay
    have c7 := hc.1.2.1
    unfold L_X5_setSpan_29 J_X5_setSpan_88
    rw [ltb_def, if_l (by omega) (by omega)]
    by_cases c0 : e ≤ i
    · rw [if_pos c0, show m = 0 by omega]
      exact wp_ret ((FC_good b0).1 _) h
    · rw [if_neg c0]
      obtain ⟨m', rfl⟩ : ∃ q, m = q + 1 := ⟨m - 1, by omega⟩
      have one : wp (FC b0) σ (ckO b0 σ (b0 + 10) 5 (cll (m_X5_setOctet b0 fu (b0 + 10) (nI c) (nI i) (nI v) σ) (fun v8 ρ9 => ltb (nI i + Int32.ofInt 1) (fun y11 => L_X5_setSpan_29 b0 fu f (b0 + 10) (nI c) (nI v) (lN (v * 72340172838076673)) (nI e) y11 ρ9)))) (fun _ τ => CM b0 τ (spnC c v i (m' + 1) C) D) := by
        rw [ckC_10 L]
        refine wp_bind (FC_good b0) (setOctet_c (fu := fu) (V := v) h hc hx (by omega) (by rw [i_255 (by omega), Nat.mod_eq_of_lt hv]) hv) ?_
        intro _ ρ q
        rw [ltb_def, ofi]
        exact ih m' (by omega) (i + 1) f ρ _ q (ci_soo hc) (by omega) (by omega)
      rw [i_and7 (by omega)]
      show wp (FC b0) σ (if nI (i % 8) = nI 0 then (if nI e - nI i < nI 8 then _ else if nI c ≤ nI 0 then _ else _) else _) _
      rw [if_e (by omega) (by omega), nI_sb (show i ≤ e by omega), if_t (by omega) (by omega), if_l hx (by omega)]
      by_cases c1 : i % 8 = 0
      · rw [if_pos c1]
        by_cases c2 : e - i < 8
        · rw [if_pos c2]
          exact one
        · rw [if_neg c2]
          by_cases c3 : c ≤ 0
          · rw [if_pos c3]
            exact one
          · rw [if_neg c3, ckC_10 L, cf_10_7 h.ca, if_l (by omega) hx]
            by_cases c4 : C 10 7 ≤ c
            · rw [if_pos c4]
              exact one
            · rw [if_neg c4, osm_p (rfC_10_0 L), ckC_11 L, i_shr3 (by omega), ix32, ckI_n (by omega) (by omega), nI_cl (by omega), ltb_def, show nI i + Int32.ofInt 8 = nI (i + 8) from nI_add i 8]
              have hb : v * 72340172838076673 < 18446744073709551616 := by omega
              have k1 := CM_fixL (j := c * 32 + i / 8) h hb
              refine wp_from (FC_good b0) (FC_sL (o := 11) (j := c * 32 + i / 8) (v := lN (v * 72340172838076673)) h.rf (by omega)) ?_
              have := ih (m' + 1 - 8) (by omega) (i + 8) f _ _ k1 (ci_11 hc) (by omega) (by omega)
              rw [← spn8 h.ca.2.2.2 ⟨by omega, by omega⟩ c1 hv, ← spn_add, show 8 + (m' + 1 - 8) = m' + 1 by omega] at this
              exact this
      · rw [if_neg c1]
        exact one
/-- bytes from i to e of a cell -/
theorem setSpan_c (h : CM b0 σ C D) (hc : ci C) {c v i e : Nat} {x y : Int32} (hx : c < 2147483648) (hi : i ≤ 256) (he : e ≤ 256) (hv : v < 256) (ex : (if x < 0 then 0 else x) = nI i) (ey : (if (256 : Int32) < y then 256 else y) = nI e) (hu : 1000 ≤ fu) : wp (FC b0) σ (m_X5_setSpan b0 fu (b0 + 10) (nI c) x y (nI v) σ) (fun _ τ => CM b0 τ (spnC c v i (e - i) C) D) := by
  refine wp_grw (FC_good b0) ?_
  have e1 : ((nI v &&& (255 : Int32)).toInt64) * (72340172838076673 : Int64) = lN (v * 72340172838076673) := by
    rw [i_255 (by omega), Nat.mod_eq_of_lt hv, nI_l (by omega)]
    exact lN_mul v 72340172838076673
  rw [ltb_def, ltb_def, ltb_def, e1, ex, ey]
  by_cases c0 : i ≤ e
  · exact ss29 hx he hv (e - i) i fu σ C h hc (by omega) (by omega)
  · obtain ⟨f, hf⟩ : ∃ q, fu = q + 1 := ⟨fu - 1, by omega⟩
    rw [show e - i = 0 by omega]
    have : L_X5_setSpan_29 b0 fu fu (b0 + 10) (nI c) (nI v) (lN (v * 72340172838076673)) (nI e) (nI i) σ = some ((), σ) := by
      conv => lhs; arg 3; rw [hf]
      unfold L_X5_setSpan_29
      rw [ltb_def, if_l (by omega) (by omega), if_pos (by omega)]
    rw [this]
    exact wp_ret ((FC_good b0).1 _) h
theorem ci_spn {c v : Nat} : ∀ m i (C : tS), ci C → ci (spnC c v i m C)
  | 0, _, _, h => h
  | m + 1, i, C, h => ci_spn m (i + 1) _ (ci_soo h)
end SN
