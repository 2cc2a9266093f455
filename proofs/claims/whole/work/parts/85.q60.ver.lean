/-! ===== PURE: a version put, with power; the journal's isRevokedLater ===== -/
section RVR
variable {Φ : tPh} {b0 fu : Nat} {σ τ : tM} {bi sp : Nat → Nat} {w : Nat → Nat × Nat} {C C' : tS} {D D' : tD} {A B : tS} {J J' : tJ} {K b wh id n m c : Nat}
theorem RO_ver (hΦ : goodT Φ) (hok : ∀ w A, Φ w A → okT A) (h : RO Φ bi sp w C D A J) (hd : dsk A K) (hR : DR bi sp C' D' (verA A b wh id)) (hc : cO C C') (hj : JP D D') (hb : b ≠ 0) (hn : ∀ k i, k < A 35 28 - A 35 35 → i < J.1 39 k → whB A J k i ≠ b) (hg : rgP (A 35 6) b wh) (h2 : wh = 2 → id ≤ A 35 34) (h3 : wh = 3 → bi id ≠ 0 ∧ b < 34 + A 35 6 + A 35 7) : RO Φ bi sp w C' D' (verA A b wh id) J := by
  obtain ⟨hCO, hSR, hT, hLc, hHc, hgh, hon, hnr, h46⟩ := h
  have kv := dk_ver (A := A) (b := b) (wh := wh) (id := id)
  have ev : ∀ q, q ≤ 14 ∨ 22 ≤ q → verA A b wh id 35 q = A 35 q := fun q hq => kv.2 q (by omega) (by omega) (by omega) (by omega) (by omega) (by omega)
  have jo := hCO.2.1.2.2.1
  have ju := hCO.2.1.2.1
  refine ⟨CO_ver hΦ hok hCO hd hR hc hj (fun k i k1 k2 => hn k i (by unfold JO at jo; omega) k2) (fun e => absurd e hb) hg h2 h3, SR_disk hSR hc kv, ?_, ?_, ?_, ?_, ?_, ?_, ?_⟩
  · exact hΦ w A _ (kv.1 36 (by decide) (by decide)) (ev 7 (by omega)) hT
  · intro k i k1 k2
    rw [ev 28 (by omega), ev 35 (by omega)] at k1
    have wv : whB (verA A b wh id) J k i = whB A J k i := by unfold whB; rw [ev 6 (by omega)]
    rw [wv, cur_ver hd, if_neg (fun y => hn k i k1 k2 y.symm)]
    exact hLc k i k1 k2
  · unfold HDc
    rw [cur_ver hd, if_neg hb, ev 31 (by omega)]
    exact hHc
  · intro q hq
    have c100 : C' 100 = C 100 := hc 100 (by decide) (by decide) (by decide) (by decide) (by decide) (by decide) (by decide)
    rw [c100, hgh q hq, ev 28 (by omega), ev 35 (by omega), mW_JP hj (by omega) _ (by rw [ju.1, ju.2]; exact Nat.le_refl _)]
  · rw [verA_35 A b wh id 18 (by decide) (by decide) (by decide) (by decide)]
    exact hon
  · rw [ev 28 (by omega), ev 35 (by omega)]
    exact hnr
  · intro b'
    rw [verA_o A b wh id b' (by decide) (by decide)]
    exact h46 b'
theorem whB_in (h : JO A J) {k i : Nat} : 34 ≤ whB A J k i ∧ whB A J k i < 34 + A 35 6 := by
  unfold JO at h
  unfold whB
  have := Nat.mod_lt (J.1 38 k + i) (show A 35 6 > 0 by omega)
  omega
/-- a number that is no part of the log -/
theorem nb_out {c : Nat} (h1 : 1 ≤ c) : nbA A c ≠ 0 ∧ (nbA A c < 34 ∨ 34 + A 35 6 ≤ nbA A c) ∧ rgP (A 35 6) (nbA A c) 0 := by
  unfold nbA
  by_cases d : c < 34
  · rw [if_pos d]
    exact ⟨by omega, by omega, Or.inr (Or.inl ⟨h1, d, rfl⟩)⟩
  · rw [if_neg d]
    exact ⟨by omega, by omega, Or.inr (Or.inr (Or.inr ⟨by omega, Or.inl rfl⟩))⟩
theorem nb_inj {c c' : Nat} (h : nbA A c = nbA A c') : c = c' := by
  unfold nbA at h
  split at h <;> split at h <;> omega
/-- does a transaction revoke a cell -/
def rvD (D : tD) (n c : Nat) : Bool := decide (sr (fun k => dX D 2 n k == c) 0 (dT D 9 n) < dT D 9 n)
theorem rv_eq (h : TR sp D A J n (n - A 35 35 - 1)) : irJ J (n - A 35 35 - 1) (nbA A c) = rvD D n c := by
  obtain ⟨t1, t2, t3, t4, t5⟩ := h
  unfold irJ rvD
  rw [← t1.2.2.2.2.2]
  have e : sr (fun i => J.1 44 (J.1 41 (n - A 35 35 - 1) + J.1 42 (n - A 35 35 - 1) + i) == nbA A c) 0 (dT D 9 n) = sr (fun k => dX D 2 n k == c) 0 (dT D 9 n) := by
    have g : ∀ m k, k + m ≤ dT D 9 n → sr (fun i => J.1 44 (J.1 41 (n - A 35 35 - 1) + J.1 42 (n - A 35 35 - 1) + i) == nbA A c) k m = sr (fun k => dX D 2 n k == c) k m := fun m => by
      induction m with
      | zero => exact fun _ _ => rfl
      | succ m ih =>
        intro k hk
        have := (t3 k (by omega)).1
        show (if (J.1 44 (J.1 41 (n - A 35 35 - 1) + J.1 42 (n - A 35 35 - 1) + k) == nbA A c) = true then k else _) = (if (dX D 2 n k == c) = true then k else _)
        rw [this, ih (k + 1) (by omega)]
        by_cases d : dX D 2 n k = c
        · rw [d]
          simp
        · have d2 : nbA A (dX D 2 n k) ≠ nbA A c := fun e => d (nb_inj e)
          have b1 : (nbA A (dX D 2 n k) == nbA A c) = false := by simp [d2]
          have b2 : (dX D 2 n k == c) = false := by simp [d]
          rw [b1, b2]
    exact g _ 0 (by omega)
  rw [e]
theorem ckI_at {β : Type} {x N : Nat} {k : Option β} (h : x < N) (hn : N < 2147483648) : ckI (nI x) N k = k := ckI_n h (by omega)
theorem rev2 (h : CG b0 σ C D mo0 mo0 0) (n1 : dL D < n) (n2 : n ≤ dH D) (hc : c < 2147483648) : ∀ j i f, i + j = dT D 9 n → j < f → L_X7_revokes_2 b0 fu f (dT D 0 n) (nI c) (nI i) σ = some (nI (if sr (fun k => dX D 2 n k == c) i j < i + j then 1 else 0), σ) := by
  obtain ⟨pl, t⟩ := h.tx n1 n2
  obtain ⟨b8, b9, b2, b3, b4⟩ := tx_8 t
  intro j
  induction j with
  | zero =>
    intro i f hi hf
    obtain ⟨f, rfl⟩ : ∃ q, f = q + 1 := ⟨f - 1, by omega⟩
    unfold L_X7_revokes_2
    rw [ltb_def, ckO_tx t, osm_p t.2.2.2.1.2.2.1, (ckR_tx t).2.2, if_l b9 (by omega), if_pos (by omega), if_neg (show ¬ sr (fun k => dX D 2 n k == c) i 0 < i + 0 from Nat.lt_irrefl _)]
    rfl
  | succ j ih =>
    intro i f hi hf
    obtain ⟨f, rfl⟩ : ∃ q, f = q + 1 := ⟨f - 1, by omega⟩
    obtain ⟨v1, v2⟩ := t.2.2.2.2.2.2 i (by omega)
    unfold L_X7_revokes_2
    rw [ltb_def, ckO_tx t, osm_p t.2.2.2.1.2.2.1, (ckR_tx t).2.2, if_l b9 (by omega), if_neg (by omega), osm_p t.2.2.2.1.2.2.1, (ckR_tx t).2.2, ckI_at (by omega) b9, nI_cl (by omega), v1, if_e (by omega) hc]
    show _ = some (nI (if (if (dX D 2 n i == c) = true then i else sr (fun k => dX D 2 n k == c) (i + 1) j) < i + (j + 1) then 1 else 0), σ)
    by_cases d : dX D 2 n i = c
    · have b1 : (dX D 2 n i == c) = true := by simp [d]
      rw [if_pos d, b1, if_pos rfl, if_pos (by omega)]
      rfl
    · have b1 : (dX D 2 n i == c) = false := by simp [d]
      rw [if_neg d, b1, if_neg (show ¬ false = true by decide), ltb_def, ofi, ih (i + 1) f (by omega) (by omega), show i + 1 + j = i + (j + 1) by omega]
theorem revokes_c (h : CG b0 σ C D mo0 mo0 0) (n1 : dL D < n) (n2 : n ≤ dH D) (hc : c < 2147483648) (hu : dT D 9 n < fu) : m_X7_revokes b0 fu (dT D 0 n) (nI c) σ = some (nI (if rvD D n c = true then 1 else 0), σ) := by
  unfold m_X7_revokes rvD
  have := rev2 (fu := fu) h n1 n2 hc (dT D 9 n) 0 fu (by omega) hu
  rw [Nat.zero_add] at this
  show grw σ (L_X7_revokes_2 b0 fu fu (dT D 0 n) (nI c) (nI 0) σ) = _
  rw [this]
  by_cases d : sr (fun k => dX D 2 n k == c) 0 (dT D 9 n) < dT D 9 n
  · rw [if_pos d, if_pos (decide_eq_true d)]
    exact grw_same
  · rw [if_neg d, if_neg (by rw [decide_eq_false d]; decide)]
    exact grw_same
/-- is a cell revoked by a later transaction that is durable -/
theorem irl5 (h : CG b0 σ C D mo0 mo0 0) (hc : c < 2147483648) (hdu : C 20 13 ≤ dH D) (hu : ∀ n, dL D < n → n ≤ dH D → dT D 9 n < fu) : ∀ j n f, dL D < n → n + j = C 20 13 + 1 → j < f → L_X1_isRevokedLater_5 b0 fu f (b0 + 20) (nI c) (if n = dH D + 1 then none else some (dT D 0 n)) σ = some (nI (if sr (fun n => rvD D n c) n j < n + j then 1 else 0), σ) := by
  have L := h.lay
  have b13 := cb_20 h.ca 13
  have bH := h.old.2.2
  intro j
  induction j with
  | zero =>
    intro n f n1 hn hf
    obtain ⟨f, rfl⟩ : ∃ q, f = q + 1 := ⟨f - 1, by omega⟩
    unfold L_X1_isRevokedLater_5 J_X1_isRevokedLater_38
    rw [ltb_def, if_neg (show ¬ sr (fun n => rvD D n c) n 0 < n + 0 from Nat.lt_irrefl _)]
    by_cases d : n = dH D + 1
    · rw [if_pos d, omt_none]
      rfl
    · obtain ⟨pl, t⟩ := h.tx n1 (by omega)
      rw [if_neg d, omt_some, ckO_tx t, ckC_20 L, cf_20_13 h.ca, t.2.2.1.1, if_t b13 (by omega), if_pos (by omega)]
      rfl
  | succ j ih =>
    intro n f n1 hn hf
    obtain ⟨f, rfl⟩ : ∃ q, f = q + 1 := ⟨f - 1, by omega⟩
    obtain ⟨pl, t⟩ := h.tx n1 (by omega)
    unfold L_X1_isRevokedLater_5 J_X1_isRevokedLater_38
    rw [ltb_def, if_neg (by omega), omt_some, ckO_tx t, ckC_20 L, cf_20_13 h.ca, t.2.2.1.1, if_t b13 (by omega), if_neg (by omega), revokes_c h n1 (by omega) hc (hu n n1 (by omega)), cll_some]
    show _ = some (nI (if (if rvD D n c = true then n else sr (fun n => rvD D n c) (n + 1) j) < n + (j + 1) then 1 else 0), σ)
    by_cases d : rvD D n c = true
    · rw [show (if rvD D n c = true then 1 else 0) = 1 from if_pos d, show (if rvD D n c = true then n else sr (fun n => rvD D n c) (n + 1) j) = n from if_pos d, if_pos (show n < n + (j + 1) by omega)]
      show (if nI 1 = nI 0 then _ else some ((1 : Int32), σ)) = _
      rw [if_e (by omega) (by omega), if_neg (by omega)]
      rfl
    · rw [show (if rvD D n c = true then 1 else 0) = 0 from if_neg d, show (if rvD D n c = true then n else sr (fun n => rvD D n c) (n + 1) j) = sr (fun n => rvD D n c) (n + 1) j from if_neg d]
      show (if nI 0 = nI 0 then _ else _) = _
      rw [if_pos rfl, ckO_tx t, t.2.2.2.1.2.2.2]
      have i1 := ih (n + 1) f (by omega) (by omega) (by omega)
      rw [show n + 1 + j = n + (j + 1) by omega] at i1
      by_cases e : n = dH D
      · rw [if_pos e, omt_none]
        rwa [if_pos (by omega)] at i1
      · rw [if_neg e, omt_some]
        rwa [if_neg (by omega)] at i1
theorem irl_c (h : CG b0 σ C D mo0 mo0 0) (hc : c < 2147483648) (hdu : C 20 13 ≤ dH D) (hu : ∀ n, dL D < n → n ≤ dH D → dT D 9 n < fu) (n1 : dL D < n) (n2 : n ≤ C 20 13) (hf : dH D + 2 < fu) : m_X1_isRevokedLater b0 fu (b0 + 20) (dT D 0 n) (nI c) σ = some (nI (if sr (fun n => rvD D n c) (n + 1) (C 20 13 - n) < C 20 13 + 1 then 1 else 0), σ) := by
  obtain ⟨pl, t⟩ := h.tx n1 (by omega)
  have i1 := irl5 h hc hdu hu (C 20 13 - n) (n + 1) fu (by omega) (by omega) (by omega)
  rw [show n + 1 + (C 20 13 - n) = C 20 13 + 1 by omega] at i1
  unfold m_X1_isRevokedLater
  rw [ckO_tx t, t.2.2.2.1.2.2.2]
  by_cases e : n = dH D
  · rw [if_pos e, omt_none]
    rw [if_pos (by omega)] at i1
    rw [i1]
    exact grw_same
  · rw [if_neg e, omt_some]
    rw [if_neg (by omega)] at i1
    rw [i1]
    exact grw_same
end RVR
