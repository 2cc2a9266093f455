/-! ===== PURE: the class's Tree: zeroBehind, resize, discard, setUp ===== -/
def dsN (n : Nat) : Nat → Nat → tS → tS
  | _, 0, C => C
  | i, m + 1, C => dsN n (i + 1) m (snC C n i 0)
def disC (C : tS) (n : Nat) : tS := dsN n 0 16 (if kiC C n = 1 then reC C n 0 else C)
def dnl : Nat → Nat → tS → tS
  | _, 0, C => C
  | n, m + 1, C => dnl (n + 1) m (if (kiC C n = 1 ∨ kiC C n = 3) ∧ naC C n = 0 then disC C n else C)
def suC (C : tS) (n k p : Nat) : tS := up2 (shC C n k (if k = 2 then 0 else 1) (if k = 2 then p else 0) 0) 19 n 0
section RZ
variable {b0 fu : Nat} {σ τ : tM} {C : tS} {D : tD}
theorem rk_cong {X : tS} (h : rk3 C) (h12 : X 12 = C 12) (h10 : ∀ q, q ≠ 11 → q ≠ 13 → X 10 q = C 10 q) (hx : ci X) : rk3 X := ⟨hx, sk_cong h.2.1 h12 (fun q hq => h10 q (by omega) (by omega)), by rw [h10 16 (by decide) (by decide)]; exact h.2.2⟩
theorem ci_soi {c : Nat} (hc : ci C) : ci (soiC C c) := by
  unfold soiC
  split
  · rename_i e
    obtain ⟨e1, e2, e3⟩ := e
    obtain ⟨⟨c1, c2, c3⟩, ⟨c4, c5, c6⟩, c7⟩ := hc
    have g : ∀ q, q ≠ 13 → up2 (up2 C 17 c 1) 10 13 (C 10 13 + 1) 10 q = C 10 q := fun q hq => by rw [up2_j hq, up2_o (by decide)]
    have g17 : ∀ k, up2 (up2 C 17 c 1) 10 13 (C 10 13 + 1) 17 k = if k = c then 1 else C 17 k := fun k => by
      rw [up2_o (by decide)]
      by_cases q : k = c
      · rw [if_pos q, q, up2_s]
      · rw [if_neg q, up2_j q]
    have go : ∀ p, p ≠ 10 → p ≠ 17 → up2 (up2 C 17 c 1) 10 13 (C 10 13 + 1) p = C p := fun p h1 h2 => by rw [up2_rown h1, up2_rown h2]
    have t := cn_on (p := fun k => C 17 k != 0) (q := fun k => up2 (up2 C 17 c 1) 10 13 (C 10 13 + 1) 17 k != 0) (x := c) (by simp [e3]) (by show (_ != 0) = true; rw [g17, if_pos rfl]; rfl) 2034 0 (Nat.zero_le _) (by omega) (fun i _ _ hi => by rw [g17, if_neg hi])
    refine ⟨⟨by rw [g 7 (by decide)]; exact c1, by rw [g 7 (by decide)]; exact c2, by rw [g 8 (by decide)]; exact c3⟩, ⟨?_, ?_, ?_⟩, fun k hk => ?_⟩
    · rw [g 11 (by decide), go 15 (by decide) (by decide)]
      exact c4
    · rw [g 12 (by decide), go 16 (by decide) (by decide)]
      exact c5
    · rw [up2_s, t, c6]
    · rw [g 7 (by decide)] at hk
      rw [go 15 (by decide) (by decide), go 16 (by decide) (by decide), g17, if_neg (by omega)]
      exact c7 k hk
  · exact hc
theorem soi_o {c p : Nat} (h1 : p ≠ 10) (h2 : p ≠ 17) : soiC C c p = C p := by
  unfold soiC
  split
  · rw [up2_rown h1, up2_rown h2]
  · rfl
theorem soi_10 {c q : Nat} (h : q ≠ 13) : soiC C c 10 q = C 10 q := by
  unfold soiC
  split
  · rw [up2_j h, up2_o (by decide)]
  · rfl
theorem rk_soi {c : Nat} (h : rk3 C) : rk3 (soiC C c) := rk_cong h (soi_o (by decide) (by decide)) (fun q _ h2 => soi_10 h2) (ci_soi h.1)
theorem rk_spn {c v m i : Nat} (h : rk3 C) : rk3 (spnC c v i m C) := rk_cong h (spn_o (by decide) _ _ _) (fun q _ _ => by rw [spn_o (by decide)]) (ci_spn m i C h.1)
theorem rk_zb {n e : Nat} (h : rk3 C) : rk3 (zbC C n e) := by
  unfold zbC
  split
  · exact h
  · exact rk_soi (rk_spn h)
theorem rk_drL {n l : Nat} : ∀ m (C : tS), rk3 C → rk3 (drL n l m C)
  | 0, _, h => h
  | m + 1, C, h => rk_drL m _ (rk_dr h)
theorem rk_re {n s : Nat} (h : rk3 C) : rk3 (reC C n s) := by
  unfold reC
  split
  · exact rk_sn h
  · exact rk_drL _ _ (rk_zb (rk_19 (rk_sn h)))
theorem rk_ds {n : Nat} : ∀ m i (C : tS), rk3 C → rk3 (dsN n i m C)
  | 0, _, _, h => h
  | m + 1, i, C, h => rk_ds m (i + 1) _ (rk_sn h)
theorem rk_dis {n : Nat} (h : rk3 C) : rk3 (disC C n) := by
  unfold disC
  split
  · exact rk_ds _ _ _ (rk_re h)
  · exact rk_ds _ _ _ h
theorem zeroBehind_c (h : CM b0 σ C D) (hr : rk3 C) {n e : Nat} (hn : n < 64) (he : e < 272384) (hu : 3000 ≤ fu) : wp (FC b0) σ (m_X8_zeroBehind b0 fu (b0 + 18) (nI n) (nI e) σ) (fun _ τ => CM b0 τ (zbC C n e) D) := by
  have L := h.lay
  have m1 : ptC C n (e / 256) % 2048 < 2048 := Nat.mod_lt _ (by omega)
  have m2 : e % 256 < 256 := Nat.mod_lt _ (by omega)
  refine wp_grw (FC_good b0) ?_
  unfold J_X8_zeroBehind_60 zbC
  rw [ckC_18 L, show nI e - nI e / (256 : Int32) * (256 : Int32) = nI (e % 256) from pk_rem (d := 256) (by omega) (by omega) (by omega), show nI e / (256 : Int32) = nI (e / 256) from nI_dv (d := 256) (by omega) (by omega) (by omega), pointer_c h.ca hn (by omega), cll_some, cellOf_c, cll_some, ltb_def]
  generalize ptC C n (e / 256) % 2048 = c at *
  show wp (FC b0) σ (if nI c = nI 0 then _ else _) _
  rw [if_e (by omega) (by omega)]
  by_cases c0 : c = 0
  · rw [if_pos c0, if_pos (Or.inl c0)]
    exact wp_ret ((FC_good b0).1 _) h
  · rw [if_neg c0, ckC_18 L, osm_p (rfC_18_0 L), ckC_10 L, isZeroFrom_c h.ca hr.1 (by omega) (by omega) (by omega), cll_some]
    cases z : zfC C c (e % 256) with
    | true =>
      rw [if_neg (show ¬ nI (b2n true) = 0 by decide), if_pos (Or.inr rfl)]
      exact wp_ret ((FC_good b0).1 _) h
    | false =>
      rw [if_pos (show nI (b2n false) = 0 by decide), if_neg (fun r => by rcases r with r | r; exact c0 r; cases r), ckC_18 L, osm_p (rfC_18_0 L), ckC_10 L]
      refine wp_bind (FC_good b0) (setSpan_c (fu := fu) (v := 0) (i := e % 256) (e := 256) h hr.1 (by omega) (by omega) (by omega) (by omega) (if_neg (nI_pos (by omega))) (if_neg (by decide)) (by omega)) ?_
      intro _ ρ q
      rw [ckC_18 q.lay, osm_p (rfC_18_0 q.lay), ckC_10 q.lay]
      refine wp_bind (FC_good b0) (soil_c (fu := fu) (c := c) q (ci_spn _ _ _ hr.1) (by omega)) ?_
      intro _ ρ2 q2
      exact wp_ret ((FC_good b0).1 _) q2
theorem rez56 {n l : Nat} (hn : n < 64) (hl : l ≤ 1064) (hu : 3000 ≤ fu) : ∀ m f σ C, CM b0 σ C D → rk3 C → l + m ≤ 1064 → m < f → wp (FC b0) σ (L_X8_resize_56 b0 fu f (b0 + 18) (nI n) (nI l) (iz (((l + m : Nat) : Int) - 1)) σ) (fun _ τ => CM b0 τ (drL n l m C) D) := by
  intro m
  induction m with
  | zero =>
    intro f σ C h hr hm hf
    obtain ⟨f, rfl⟩ : ∃ q, f = q + 1 := ⟨f - 1, by omega⟩
    have lt : nI l - 1 < nI l := by
      by_cases c : l = 0
      · subst c
        decide
      · rw [show nI l - 1 = nI (l - 1) from nI_sb (b := 1) (by omega)]
        exact (nI_ltP (by omega) (by omega)).mpr (by omega)
    unfold L_X8_resize_56
    rw [ltb_def, iz_m1, Nat.add_zero, if_pos lt]
    exact wp_ret ((FC_good b0).1 _) h
  | succ m ih =>
    intro f σ C h hr hm hf
    obtain ⟨f, rfl⟩ : ∃ q, f = q + 1 := ⟨f - 1, by omega⟩
    unfold L_X8_resize_56
    rw [ltb_def, iz_m1, show nI (l + (m + 1)) - 1 = nI (l + m) from nI_sb (a := l + (m + 1)) (b := 1) (by omega), if_t (by omega) (by omega), if_neg (by omega), ckC_18 h.lay]
    refine wp_bind (FC_good b0) (drop_c (fu := fu) h hr hn (by omega) hu) ?_
    intro _ ρ q
    rw [ltb_def, show nI (l + m) + Int32.ofInt (-1) = iz (((l + m : Nat) : Int) - 1) from by
      rw [iz_m1]
      cases hx : l + m with
      | zero => decide
      | succ y => rw [show nI (y + 1) + Int32.ofInt (-1) = nI y from pk_m1 y, show nI (y + 1) - 1 = nI y from nI_sb (a := y + 1) (b := 1) (by omega)]]
    exact ih f ρ _ q (rk_dr hr) (by omega) (by omega)
theorem resize_c (h : CM b0 σ C D) (hr : rk3 C) {n s : Nat} (hn : n < 64) (hs : s ≤ 272384) (hz : szC C n ≤ 272384) (hu : 3000 ≤ fu) : wp (FC b0) σ (m_X8_resize b0 fu (b0 + 18) (nI n) (nI s) σ) (fun _ τ => CM b0 τ (reC C n s) D) := by
  have L := h.lay
  refine wp_grw (FC_good b0) ?_
  unfold reC
  rw [ckC_18 L, size_c h.ca hn, cll_some, ckC_18 L]
  refine wp_bind (FC_good b0) (setSize_c (fu := fu) h hr.1 hn (show s < 2147483648 by omega)) ?_
  intro _ ρ q
  have q : CM b0 ρ (re1 C n s) D := q
  have r1 : rk3 (re1 C n s) := rk_sn hr
  rw [if_e (by omega) (by omega)]
  by_cases c : s = szC C n
  · rw [if_pos c, if_pos c]
    exact wp_ret ((FC_good b0).1 _) q
  · rw [if_neg c, if_neg c, ckC_18 q.lay]
    refine wp_bind (FC_good b0) (noteChange_c (fu := fu) (v := 1) q hn (by omega)) ?_
    intro _ ρ2 q2
    have ev : (if nI (szC C n) < nI s then nI (szC C n) else nI s) = nI (if szC C n < s then szC C n else s) := by
      rw [if_t (by omega) (by omega)]
      split <;> rfl
    have e1 : nI s + (256 : Int32) - (1 : Int32) = nI (s + 255) := by
      rw [show nI s + (256 : Int32) = nI (s + 256) from nI_add s 256]
      exact nI_sb (a := s + 256) (b := 1) (by omega)
    have e2 : nI (s + 255) / (256 : Int32) = nI ((s + 255) / 256) := nI_dv (d := 256) (by omega) (by omega) (by omega)
    have e3 : (nI (szC C n) - (1 : Int32)) / (256 : Int32) = nI ((szC C n - 1) / 256) := by
      by_cases z : szC C n = 0
      · rw [z]
        decide
      · rw [show nI (szC C n) - (1 : Int32) = nI (szC C n - 1) from nI_sb (b := 1) (by omega)]
        exact nI_dv (d := 256) (by omega) (by omega) (by omega)
    rw [ckC_18 q2.lay, ev]
    refine wp_bind (FC_good b0) (zeroBehind_c (fu := fu) q2 (rk_19 r1) hn (show (if szC C n < s then szC C n else s) < 272384 by split <;> omega) hu) ?_
    intro _ ρ3 q3
    have r3 := rk_zb (n := n) (e := if szC C n < s then szC C n else s) (rk_19 (n := n) (v := 1) r1)
    rw [ltb_def, ltb_def, e1, e2, e3]
    generalize zbC (up2 (re1 C n s) 19 n 1) n (if szC C n < s then szC C n else s) = X at *
    by_cases g : (s + 255) / 256 ≤ (szC C n - 1) / 256 + 1
    · have := rez56 (fu := fu) (D := D) hn (l := (s + 255) / 256) (by omega) hu ((szC C n - 1) / 256 + 1 - (s + 255) / 256) fu ρ3 X q3 r3 (by omega) (by omega)
      rw [show (((s + 255) / 256 + ((szC C n - 1) / 256 + 1 - (s + 255) / 256) : Nat) : Int) - 1 = (((szC C n - 1) / 256 : Nat) : Int) by omega, iz_n] at this
      exact this
    · rw [show (szC C n - 1) / 256 + 1 - (s + 255) / 256 = 0 by omega]
      obtain ⟨f, hf⟩ : ∃ q, fu = q + 1 := ⟨fu - 1, by omega⟩
      have : L_X8_resize_56 b0 fu fu (b0 + 18) (nI n) (nI ((s + 255) / 256)) (nI ((szC C n - 1) / 256)) ρ3 = some ((), ρ3) := by
        conv => lhs; arg 3; rw [hf]
        unfold L_X8_resize_56
        rw [ltb_def, if_t (by omega) (by omega), if_pos (by omega)]
      rw [this]
      exact wp_ret ((FC_good b0).1 _) q3
theorem dis17 {n : Nat} (hn : n < 64) : ∀ m i f σ C, CM b0 σ C D → ci C → i + m = 16 → m < f → wp (FC b0) σ (L_X8_discard_17 b0 fu f (b0 + 18) (nI n) (nI i) σ) (fun _ τ => CM b0 τ (dsN n i m C) D) := by
  intro m
  induction m with
  | zero =>
    intro i f σ C h hc hi hf
    obtain ⟨f, rfl⟩ : ∃ q, f = q + 1 := ⟨f - 1, by omega⟩
    unfold L_X8_discard_17
    rw [ltb_def, show (16 : Int32) = nI 16 from rfl, if_l (by omega) (by omega), if_pos (by omega)]
    exact wp_ret ((FC_good b0).1 _) h
  | succ m ih =>
    intro i f σ C h hc hi hf
    obtain ⟨f, rfl⟩ : ∃ q, f = q + 1 := ⟨f - 1, by omega⟩
    unfold L_X8_discard_17
    rw [ltb_def, show (16 : Int32) = nI 16 from rfl, if_l (by omega) (by omega), if_neg (by omega), ckC_18 h.lay]
    refine wp_bind (FC_good b0) (setNodeWord_c (fu := fu) (V := 0) h hc hn (by omega) (by decide)) ?_
    intro _ ρ q
    rw [ltb_def, ofi]
    exact ih (i + 1) f ρ _ q (ci_sn hc) (by omega) (by omega)
theorem discard_c (h : CM b0 σ C D) (hr : rk3 C) {n : Nat} (hn : n < 64) (hz : szC C n ≤ 272384) (hu : 3000 ≤ fu) : wp (FC b0) σ (m_X8_discard b0 fu (b0 + 18) (nI n) σ) (fun _ τ => CM b0 τ (disC C n) D) := by
  have k1 := (kna C n).1
  refine wp_grw (FC_good b0) ?_
  unfold J_X8_discard_15 disC
  rw [ckC_18 h.lay, kind_c h.ca hn, cll_some]
  show wp (FC b0) σ (if nI (kiC C n) = nI 1 then _ else _) _
  rw [if_e (by omega) (by omega)]
  by_cases c : kiC C n = 1
  · rw [if_pos c, if_pos c, ckC_18 h.lay]
    refine wp_bind (FC_good b0) (resize_c (fu := fu) (s := 0) h hr hn (by omega) hz hu) ?_
    intro _ ρ q
    exact dis17 hn 16 0 fu ρ _ q (rk_re hr).1 (by omega) (by omega)
  · rw [if_neg c, if_neg c]
    exact dis17 hn 16 0 fu σ _ h hr.1 (by omega) (by omega)
theorem dnl2 (hu : 3000 ≤ fu) : ∀ m n f σ C, CM b0 σ C D → rk3 C → n + m = 64 → m < f → (∀ k (X : tS), X = dnl n k C → n + k < 64 → szC X (n + k) ≤ 272384) → wp (FC b0) σ (L_X8_discardNameless_2 b0 fu f (b0 + 18) (nI n) σ) (fun _ τ => CM b0 τ (dnl n m C) D) := by
  intro m
  induction m with
  | zero =>
    intro n f σ C h hr hn hf _
    obtain ⟨f, rfl⟩ : ∃ q, f = q + 1 := ⟨f - 1, by omega⟩
    unfold L_X8_discardNameless_2
    rw [ltb_def, show (64 : Int32) = nI 64 from rfl, if_l (by omega) (by omega), if_pos (by omega)]
    exact wp_ret ((FC_good b0).1 _) h
  | succ m ih =>
    intro n f σ C h hr hn hf hz
    obtain ⟨f, rfl⟩ : ∃ q, f = q + 1 := ⟨f - 1, by omega⟩
    obtain ⟨k1, k2, -⟩ := kna C n
    have z0 := hz 0 C rfl (by omega)
    have go : ∀ (ρ : tM) (X : tS), CM b0 ρ X D → rk3 X → X = (if (kiC C n = 1 ∨ kiC C n = 3) ∧ naC C n = 0 then disC C n else C) → wp (FC b0) ρ (L_X8_discardNameless_2 b0 fu f (b0 + 18) (nI (n + 1)) ρ) (fun _ τ => CM b0 τ (dnl n (m + 1) C) D) := by
      intro ρ X q rX eX
      have := ih (n + 1) f ρ X q rX (by omega) (by omega) (fun k Y hY hk => by
        have := hz (k + 1) Y (by rw [hY, eX]; rfl) (by omega)
        rw [show n + (k + 1) = n + 1 + k by omega] at this
        exact this)
      rw [eX] at this
      exact this
    have j24 : (kiC C n = 1 ∨ kiC C n = 3) → wp (FC b0) σ (J_X8_discardNameless_24 b0 fu (L_X8_discardNameless_2 b0 fu f) (b0 + 18) (nI n) σ) (fun _ τ => CM b0 τ (dnl n (m + 1) C) D) := by
      intro hk
      unfold J_X8_discardNameless_24 J_X8_discardNameless_37
      rw [ckC_18 h.lay, names_c h.ca (by omega), cll_some, ltb_def, ofi]
      show wp (FC b0) σ (if nI (naC C n) = nI 0 then _ else _) _
      rw [if_e (by omega) (by omega)]
      by_cases c : naC C n = 0
      · rw [if_pos c, ckC_18 h.lay]
        refine wp_bind (FC_good b0) (discard_c (fu := fu) h hr (by omega) z0 hu) ?_
        intro _ ρ q
        rw [ltb_def]
        exact go ρ _ q (rk_dis hr) (by rw [if_pos ⟨hk, c⟩])
      · rw [if_neg c]
        exact go σ C h hr (by rw [if_neg (fun r => c r.2)])
    unfold L_X8_discardNameless_2
    rw [ltb_def, show (64 : Int32) = nI 64 from rfl, if_l (by omega) (by omega), if_neg (by omega), ckC_18 h.lay, kind_c h.ca (by omega), cll_some]
    show wp (FC b0) σ (if nI (kiC C n) = nI 1 then _ else if nI (kiC C n) = nI 3 then _ else _) _
    rw [if_e (by omega) (by omega), if_e (by omega) (by omega)]
    by_cases c1 : kiC C n = 1
    · rw [if_pos c1]
      exact j24 (Or.inl c1)
    · rw [if_neg c1]
      by_cases c3 : kiC C n = 3
      · rw [if_pos c3]
        exact j24 (Or.inr c3)
      · rw [if_neg c3]
        unfold J_X8_discardNameless_37
        rw [ltb_def, ofi]
        exact go σ C h hr (by rw [if_neg (fun r => by rcases r.1 with q | q; exact c1 q; exact c3 q)])
theorem setUp_c (h : CM b0 σ C D) (hc : ci C) {n k p : Nat} (hn : n < 64) (hk : k < 256) (hp : p < 256) : wp (FC b0) σ (m_X8_setUp b0 fu (b0 + 18) (nI n) (nI k) (nI p) σ) (fun _ τ => CM b0 τ (suC C n k p) D) := by
  refine wp_grw (FC_good b0) ?_
  unfold J_X8_setUp_10 J_X8_setUp_25 J_X8_setUp_35 suC
  have fin : ∀ na q, na < 256 → q < 256 → wp (FC b0) σ (ckO b0 σ (b0 + 18) 8 (cll (m_X8_setHeader b0 fu (b0 + 18) (nI n) (nI k) (nI na) (nI q) 0 σ) (fun v6 ρ7 => ckO b0 ρ7 (b0 + 18) 8 (cll (m_X8_noteChange b0 fu (b0 + 18) (nI n) 0 ρ7) (fun v11 ρ12 => some ((), ρ12)))))) (fun _ τ => CM b0 τ (up2 (shC C n k na q 0) 19 n 0) D) := by
    intro na q h1 h2
    rw [ckC_18 h.lay]
    refine wp_bind (FC_good b0) (setHeader_c (fu := fu) (s := 0) h hc hn hk h1 h2 (by omega)) ?_
    intro _ ρ r
    rw [ckC_18 r.lay]
    refine wp_bind (FC_good b0) (noteChange_c (fu := fu) (v := 0) r hn (by omega)) ?_
    intro _ ρ2 r2
    exact wp_ret ((FC_good b0).1 _) r2
  show wp (FC b0) σ (if nI k = nI 2 then _ else _) _
  rw [if_e (by omega) (by omega)]
  by_cases c : k = 2
  · rw [if_pos c, if_neg (show ¬ (1 : Int32) = 0 by decide), if_neg (show ¬ (1 : Int32) = 0 by decide), if_pos c, if_pos c]
    exact fin 0 p (by omega) hp
  · rw [if_neg c, if_pos (show (0 : Int32) = 0 from rfl), if_pos (show (0 : Int32) = 0 from rfl), if_neg c, if_neg c]
    exact fin 1 0 (by omega) (by omega)
end RZ
