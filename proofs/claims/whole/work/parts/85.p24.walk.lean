/-! ===== PURE: the reference walks to a path's node, and ahead of its last name ===== -/
def wkA (A : Nat → Nat → Nat) (fo : Bool) (cs : List (List Nat)) : Int := wk A fo 1000 0 0 cs
def laE (tx : Nat → Nat) : Nat → Nat
  | 0 => 0
  | n + 1 => if tx n = 47 then laE tx n else n + 1
def laF (tx : Nat → Nat) : Nat → Nat
  | 0 => 0
  | n + 1 => if tx n = 47 then n + 1 else laF tx n
theorem laE_le (tx : Nat → Nat) : ∀ n, laE tx n ≤ n
  | 0 => Nat.le_refl _
  | n + 1 => by have := laE_le tx n; unfold laE; split <;> omega
theorem laF_le (tx : Nat → Nat) : ∀ n, laF tx n ≤ n
  | 0 => Nat.le_refl _
  | n + 1 => by have := laF_le tx n; unfold laF; split <;> omega
/-- a path's text is printed signs -/
def patOk (A : Nat → Nat → Nat) : Prop := ∀ w, w < 2 → A 64 w ≤ 120 ∧ ∀ i, i < A 64 w → 33 ≤ A (62 + w) i ∧ A (62 + w) i ≤ 126
theorem eN_f {A : Nat → Nat → Nat} {d n : Nat} {nm : Nat → Nat} (hT : okT A) (h : ¬ eAll A d ≤ fA A d nm n) : eN A d (fA A d nm n) < 64 := by
  have h1 := sr_is (fP A d nm n) (eAll A d) 0 (by show fA A d nm n < 0 + eAll A d; omega)
  have h2 : fP A d nm n (fA A d nm n) = true := h1
  have := eN_lt hT d (fA A d nm n)
  unfold fP at h2
  simp at h2
  omega
theorem wk_bd {A : Nat → Nat → Nat} (hT : okT A) (fo : Bool) : ∀ w d lk cs, d < 64 → -10 ≤ wk A fo w d lk cs ∧ wk A fo w d lk cs < 64
  | 0, d, lk, cs, hd => by unfold wk; omega
  | w + 1, d, lk, [], hd => by simp only [wk]; omega
  | w + 1, d, lk, c :: cs, hd => by
    have i1 := wk_bd hT fo w d lk cs hd
    have i2 := wk_bd hT fo w (nd A d 3) lk cs (nd_3 hT hd)
    have i3 : ¬ eAll A d ≤ fA A d (fun i => c.getD i 0) c.length → _ := fun q => wk_bd hT fo w (eN A d (fA A d (fun i => c.getD i 0) c.length)) lk cs (eN_f hT q)
    have i4 := wk_bd hT fo w (if ab (tl A (eN A d (fA A d (fun i => c.getD i 0) c.length))) then 0 else d) (lk + 1) (cps [] (tl A (eN A d (fA A d (fun i => c.getD i 0) c.length))) ++ cs) (by split <;> omega)
    simp only [wk]
    split
    · omega
    · split
      · omega
      · split
        · exact i1
        · split
          · exact i2
          · split
            · omega
            · split
              · split
                · omega
                · exact i4
              · exact i3 (by assumption)
/-- all that a walk reads is in the tree -/
theorem on36 {A B : Nat → Nat → Nat} (h : A 36 = B 36) : nd A = nd B ∧ pt A = pt B ∧ leafA A = leafA B ∧ hasA A = hasA B ∧ eN A = eN B ∧ eAll A = eAll B ∧ fA A = fA B ∧ tl A = tl B := by
  have e1 : nd A = nd B := by funext n x; unfold nd; rw [h]
  have e2 : pt A = pt B := by funext n x; unfold pt; rw [h]
  have e3 : leafA A = leafA B := by funext n x; unfold leafA; rw [e1, e2]
  have e4 : hasA A = hasA B := by funext n x; unfold hasA; rw [e1, e2, e3]
  have e5 : eN A = eN B := by funext n x; unfold eN ex; rw [h, e4]
  have e6 : eAll A = eAll B := by funext n; unfold eAll; rw [e1]
  have e7 : fA A = fA B := by
    funext d nm n
    unfold fA fP eL eC ex
    rw [e6, e5, h, e4]
  have e8 : tl A = tl B := by funext g; unfold tl; rw [e1]
  exact ⟨e1, e2, e3, e4, e5, e6, e7, e8⟩
theorem wk_36 {A B : Nat → Nat → Nat} (h : A 36 = B 36) (fo : Bool) : ∀ w d lk cs, wk A fo w d lk cs = wk B fo w d lk cs
  | 0, _, _, _ => rfl
  | w + 1, d, lk, [] => rfl
  | w + 1, d, lk, c :: cs => by
    obtain ⟨e1, -, -, -, e5, e6, e7, e8⟩ := on36 h
    simp only [wk, e1, e5, e6, e7, e8, wk_36 h fo w]
theorem iz_ge {x : Int} (h1 : -10 ≤ x) (h2 : x < 64) : (0 : Int32) ≤ iz x ↔ 0 ≤ x := by
  unfold iz
  rw [Int32.le_iff_toInt_le, Int32.toInt_ofInt_of_le (by omega) (by omega)]
  exact Iff.rfl
/-- a path's last name, as it is copied -/
def cp67 (A : Nat → Nat → Nat) (w fr n : Nat) : Nat → Nat → Nat := fun o j => if o = 67 ∧ j < n then A (62 + w) (fr + j) else up2 A 35 53 n o j
def lsN (A : Nat → Nat → Nat) (w : Nat) : Nat := laE (A (62 + w)) (A 64 w) - laF (A (62 + w)) (laE (A (62 + w)) (A 64 w))
def lsF (A : Nat → Nat → Nat) (w : Nat) : Nat := laF (A (62 + w)) (laE (A (62 + w)) (A 64 w))
def dts (A : Nat → Nat → Nat) (w : Nat) : Bool := decide (lsN A w = 0 ∨ (lsN A w = 1 ∧ A (62 + w) (lsF A w) = 46) ∨ (lsN A w = 2 ∧ A (62 + w) (lsF A w) = 46 ∧ A (62 + w) (lsF A w + 1) = 46))
def waA (A : Nat → Nat → Nat) (w : Nat) : Int :=
  if wkA A true (cps [] (seg (A (62 + w)) 0 (lsF A w))) < 0 then wkA A true (cps [] (seg (A (62 + w)) 0 (lsF A w)))
  else if dts A w then -9 else if nd A (wkA A true (cps [] (seg (A (62 + w)) 0 (lsF A w)))).toNat 0 = 2 then wkA A true (cps [] (seg (A (62 + w)) 0 (lsF A w))) else -3
section RW4
variable {b0 fu : Nat} {σ τ : tM} {A : Nat → Nat → Nat} {N : Nat} {J : tJ}
theorem up51 (h : RM b0 J σ A N) : RM b0 J σ (up2 A 35 51 (A 35 51)) N := by rw [up2_id]; exact h
theorem begin_wp {w n : Nat} (h : RM b0 J σ A N) (hw : w < 2) (hn : n ≤ 120) (hb : ∀ i, i < n → A (62 + w) i < 128) : wp (FR b0) σ (m_X12_begin b0 fu (b0 + 35) (nI w) (nI n) σ) (fun _ τ => RM b0 J τ (up2 A 35 51 n) N ∧ TD b0 τ (A (62 + w)) n) := by
  have L := h.ra.lay
  have h4 : (tA σ (b0 + 35) 49 = some (b0 + 65) ∧ tA σ (b0 + 35) 50 = some (b0 + 66)) ∨ (tA σ (b0 + 35) 49 = some (b0 + 66) ∧ tA σ (b0 + 35) 50 = some (b0 + 65)) := by
    obtain ⟨-, -, ad, ln, U, un, hd, -⟩ := h
    exact hd.2.2.2
  obtain ⟨t, u, t1, t2, t3⟩ : ∃ t u, tA σ (b0 + 35) 49 = some t ∧ tA σ (b0 + 35) 50 = some u ∧ ((t = b0 + 65 ∧ u = b0 + 66) ∨ (t = b0 + 66 ∧ u = b0 + 65)) := by
    rcases h4 with ⟨q1, q2⟩ | ⟨q1, q2⟩
    · exact ⟨_, _, q1, q2, Or.inl ⟨rfl, rfl⟩⟩
    · exact ⟨_, _, q1, q2, Or.inr ⟨rfl, rfl⟩⟩
  obtain ⟨kt1, kt2⟩ := ck65 L (t := t) (by omega)
  have hp : tA σ (b0 + 61) w = some (b0 + (62 + w)) ∧ tk σ (b0 + (62 + w)) = .inr (1, 120) ∧ ∀ j, tI σ (b0 + (62 + w)) j = sb (A (62 + w) j) := by
    have : w = 0 ∨ w = 1 := by omega
    rcases this with rfl | rfl
    · exact ⟨rfR_61_0 L, rkR62 L, rd_62 h.ra⟩
    · exact ⟨rfR_61_1 L, rkR63 L, rd_63 h.ra⟩
  have h74 := L.1
  refine wp_grw (FR_good b0) ?_
  rw [ckR_35 L, osm_p (rfR_35_47 L), ckR_61 L, ckI_n hw (by omega), nI_cl (by omega), osm_p hp.1, osm_p t1, ckR_p hp.2.1 ⟨by omega, by omega⟩, ckR_p kt1 kt2]
  have ckc : ∀ (k : Option (Unit × tM)), ckC 0 0 (nI n) 120 2048 k = k := fun k => by
    unfold ckC
    rw [nI_cl (by omega), show (0 : Int32).toNatClampNeg = 0 from rfl, if_pos ⟨⟨by decide, by decide, nI_pos (by omega)⟩, by omega, by omega⟩]
  have ckf : ∀ (k : Option (Unit × tM)), ckF (tI σ (b0 + (62 + w))) 0 (nI n) k = k := fun k => by
    unfold ckF
    rw [nI_cl (by omega), show (0 : Int32).toNatClampNeg = 0 from rfl, if_pos]
    intro j hj
    rw [hp.2.2, sb_nI (by rw [Nat.zero_add]; exact hb j hj), byt (by rw [Nat.zero_add]; exact hb j hj)]
  rw [ckc, ckf, ltb_def, nI_cl (by omega), show (0 : Int32).toNatClampNeg = 0 from rfl]
  generalize hF : va_cpy (tI σ (b0 + (62 + w))) (tI σ t) 0 0 n = Fu
  have hA : ∀ x y, ¬ (x = b0 + 35 ∧ (y = 49 ∨ y = 50)) → tA (sI (sIr σ t Fu) (b0 + 35) 51 (nI n)) x y = tA σ x y := fun x y _ => rfl
  have hI : ∀ x y, x ≠ b0 + 65 → x ≠ b0 + 66 → ¬ (x = b0 + 35 ∧ y = 51) → tI (sI (sIr σ t Fu) (b0 + 35) 51 (nI n)) x y = tI σ x y := fun x y h1 h2 h3 => by
    have e : tI (sIr σ t Fu) x y = tI σ x y := by rw [rd_Ir, if_neg (by omega)]
    rw [rd_II]
    by_cases q : x = b0 + 35
    · rw [if_pos q, if_neg (by omega), e]
    · rw [if_neg q, e]
  refine wp_ret (FR_walk rfl rfl rfl rfl hA hI) ⟨RM_walk (up51 h) (by omega) rfl rfl hA hI (rd_IIs _ _ _ _) h4, t, u, t1, t2, t3, fun j hj => ?_⟩
  rw [rd_IIa (by omega), rd_Ir, if_pos rfl, ← hF, sb_cpy0 hj, hp.2.2, sb_nI (hb j hj)]
  exact ⟨rfl, hb j hj⟩
theorem walk_wp {n : Nat} {tx : Nat → Nat} (h : RM b0 J σ (up2 A 35 51 n) N) (ht : TD b0 σ tx n) (hn : n ≤ 120) (hD : dirsOk A) (hu : 10000 ≤ fu) (fo : Bool) : wp (FR b0) σ (m_X12_walk b0 fu (b0 + 35) (nI (b2n fo)) σ) (fun v τ => v = iz (wkA A fo (cps [] (seg tx 0 n))) ∧ ∃ s', RM b0 J τ (up2 A 35 51 s') N) := by
  have L := h.ra.lay
  have b51 : up2 A 35 51 n 35 51 = n := up2_s _ _ _ _
  refine wp_grw (FR_good b0) ?_
  have hb := behind_eq h.ra (by rw [b51]; exact ht) (by rw [b51]; omega) (k := 0) (Nat.zero_le _) hu
  rw [b51] at hb
  rw [ckR_35 L]
  show wp (FR b0) σ (cll (m_X12_behind b0 fu (b0 + 35) (nI 0) σ) _) _
  rw [hb, cll_some]
  have r5 := sr_le (fun i => tx i != 47) (n - 0) 0
  have r6 : sr (fun i => tx i != 47) 0 (n - 0) < n → tx (sr (fun i => tx i != 47) 0 (n - 0)) ≠ 47 := fun q => by
    have := sr_is (fun i => tx i != 47) (n - 0) 0 (by omega)
    simpa using this
  have r7 := cps_sl tx (n - 0) 0
  rw [Nat.zero_add, Nat.sub_zero] at r7
  rw [Nat.sub_zero] at r5 r6 ⊢
  have hl : (cps [] (seg tx 0 n)).length ≤ 61 := by
    have := cps_len (seg tx 0 n) []
    rw [seg_len] at this
    simp at this
    omega
  have := walk_loop (fu := fu) hD hu fo 1000 fu 0 0 n tx _ σ h ht (by omega) r6 (by omega) (by omega) (by omega) (by rw [← r7]; omega) (by rw [← r7]; omega)
  rw [← r7] at this
  exact this
theorem walkTo_wp {w : Nat} (h : RM b0 J σ A N) (hw : w < 2) (hP : patOk A) (hD : dirsOk A) (hu : 10000 ≤ fu) (fo : Bool) : wp (FR b0) σ (m_X12_walkTo b0 fu (b0 + 35) (nI w) (nI (b2n fo)) σ) (fun v τ => v = iz (wkA A fo (cps [] (seg (A (62 + w)) 0 (A 64 w)))) ∧ ∃ s', RM b0 J τ (up2 A 35 51 s') N) := by
  have L := h.ra.lay
  obtain ⟨p1, p2⟩ := hP w hw
  refine wp_grw (FR_good b0) ?_
  rw [ckR_35 L, osm_p (rfR_35_48 L), ckR_64 L, ckI_n hw (by omega), nI_cl (by omega), rd_64 h.ra]
  refine wp_bind (FR_good b0) (begin_wp h hw p1 (fun i hi => by have := (p2 i hi).2; omega)) fun _ ρ hq => ?_
  rw [ckR_35 hq.1.ra.lay]
  exact wp_bind (FR_good b0) (walk_wp hq.1 hq.2 p1 hD hu fo) fun v ρ2 h2 => wp_ret ((FR_good b0).1 _) h2
end RW4
