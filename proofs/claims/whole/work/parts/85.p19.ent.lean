/-! ===== PURE: the reference adds and removes entries ===== -/
def nmL (d k : Nat) (nm : Nat → Nat) : Nat → Nat → (Nat → Nat → Nat) → Nat → Nat → Nat
  | 0, _, A => A
  | m + 1, i, A => nmL d k nm m (i + 1) (up2 A 36 (ex A d k (2 + i)) (nm i))
def add1 (A : Nat → Nat → Nat) (d : Nat) : Nat → Nat → Nat := if ffA A d = eAll A d then setN (ensA A d (ffA A d / 8)) d 1 (256 * (ffA A d / 8 + 1)) else A
def add2 (A : Nat → Nat → Nat) (d k : Nat) (nm : Nat → Nat) (many n : Nat) : Nat → Nat → Nat := putE (nmL d k nm many 0 (up2 A 36 (ex A d k 1) many)) d k n
def addA (A : Nat → Nat → Nat) (d : Nat) (nm : Nat → Nat) (many n : Nat) : Nat → Nat → Nat := add2 (add1 A d) d (ffA A d) nm many n
def remL (d : Nat) : Nat → (Nat → Nat → Nat) → Nat → Nat → Nat
  | 0, A => A
  | c + 1, A => if bareA A d c then remL d c (setN (dropA A d c) d 1 (256 * c)) else A
def remA (A : Nat → Nat → Nat) (d k : Nat) : Nat → Nat → Nat := remL d (nd (putE A d k 64) d 1 / 256) (putE A d k 64)
def remOk (d : Nat) : Nat → (Nat → Nat → Nat) → Prop
  | 0, _ => True
  | c + 1, A => hasA A d c ≠ 0 ∧ dropOk A d c ∧ okS A ∧ (bareA A d c = true → remOk d c (setN (dropA A d c) d 1 (256 * c)))
/-- a change behind a room's pointers leaves the blocks of all nodes -/
theorem has_ent {A : Nat → Nat → Nat} {r w v : Nat} (hw : 34 ≤ w) (hw2 : w < 274) {n i : Nat} (hn : n < 64) (hi : i < 1064) : hasA (up2 A 36 (6080 + r * 274 + w) v) n i = hasA A n i := by
  have h1 : ∀ x, x < 95 → nd (up2 A 36 (6080 + r * 274 + w) v) n x = nd A n x := fun x hx => by unfold nd; rw [up2_j (by omega)]
  have h2 : ∀ q k, k < 32 → pt (up2 A 36 (6080 + r * 274 + w) v) q k = pt A q k := fun q k hk => by unfold pt; rw [up2_j (by omega)]
  have h3 : leafA (up2 A 36 (6080 + r * 274 + w) v) n i = leafA A n i := by
    unfold leafA
    rw [h1 93 (by omega), h1 94 (by omega)]
    split
    · rfl
    · split
      · rfl
      · exact h2 _ _ (by omega)
  unfold hasA
  rw [h3]
  split
  · exact h1 _ (by omega)
  · split
    · rfl
    · exact h2 _ _ (plA_lt (by omega))
theorem ex_ent {A : Nat → Nat → Nat} {r w v : Nat} (hw : 34 ≤ w) (hw2 : w < 274) {d k x : Nat} (hn : d < 64) (hi : k / 8 < 1064) : ex (up2 A 36 (6080 + r * 274 + w) v) d k x = ex A d k x := by
  unfold ex
  rw [has_ent hw hw2 hn hi]
theorem ne_us {r w q : Nat} (h0 : 0 < w) (h1 : w < 274) : 6080 + r * 274 + w ≠ 6080 + q * 274 := by omega
theorem sb_nI {x : Nat} (h : x < 128) : sb x = nI x := by
  have : ∀ y : Fin 128, sb y.val = nI y.val := by decide
  exact this ⟨x, h⟩
section RZ
variable {b0 fu : Nat} {σ τ : tM} {A : Nat → Nat → Nat} {N : Nat} {J : tJ}
theorem putEntry_wp (h : RM b0 J σ A N) (hN : N < 65536) (hS : okS A) {d k v : Nat} (hd : d < 64) (hk : k / 8 < 1064) (hz : hasA A d (k / 8) ≠ 0) (hv : v < 65) : wp (FR b0) σ (m_X12_putEntry b0 fu (b0 + 35) (nI d) (nI k) (nI v) σ) (fun _ τ => RM b0 J τ (putE A d k v) (N + 1)) := by
  have L := h.ra.lay
  have l1 := has_le h.ok hd hk
  have hx : ex A d k 0 < 554080 := by unfold ex; omega
  refine wp_grw (FR_good b0) ?_
  rw [ckR_35 L]
  show wp (FR b0) σ (cll (m_X12_entryAt b0 fu (b0 + 35) (nI d) (nI k) (nI 0) σ) _) _
  rw [entryAt_eq h.ra h.ok hd hk (by omega) hz, cll_some, ckR_35 L]
  refine wp_bind (FR_good b0) (put_wp (N' := N + 1) h hN hx ?_ (Or.inl ?_)) fun _ ρ h1 => ?_
  · unfold ex
    rw [bT_r _ (by omega)]
    unfold bR
    repeat (first | omega | split)
  · unfold ex
    rw [usd_oth (fun q => ne_us (by omega) (by omega))]
    omega
  · have e8 : nI k / 8 = nI (k / 8) := nI_dv (d := 8) (by omega) (by omega) (by omega)
    have hs : hasA (up2 A 36 (ex A d k 0) v) d (k / 8) = hasA A d (k / 8) := has_ent (w := 34 + k % 8 * 30 + 0) (by omega) (by omega) hd hk
    rw [ckR_35 h1.ra.lay, e8, has_eq h1.ra h1.ok hd hk, cll_some, hs, ckR_35 h1.ra.lay, show nI (hasA A d (k / 8)) - 1 = nI (hasA A d (k / 8) - 1) from nI_sb (b := 1) (by omega), numberOf_eq h1.ra, cll_some, ckR_35 h1.ra.lay, up2_o (by decide)]
    have := hS.1
    exact wp_bind (FR_good b0) (tou_wp h1 (by omega)) fun _ ρ2 h2 => wp_ret ((FR_good b0).1 _) h2
theorem add60 {d k many n : Nat} (hd : d < 64) (hk : k / 8 < 1064) (hm : many < 29) (hn : n < 65) : ∀ m i f σ A N, RM b0 J σ A N → N + m < 65536 → okS A → hasA A d (k / 8) ≠ 0 → (∀ i, i < many → A 67 i < 128) → i + m = many → m < f → wp (FR b0) σ (L_X12_addEntry_60 b0 fu f (b0 + 35) (nI d) (b0 + 67) (nI many) (nI n) (nI k) (nI i) σ) (fun _ τ => RM b0 J τ (putE (nmL d k (A 67) m i A) d k n) (N + m + 1)) := by
  intro m
  induction m with
  | zero =>
    intro i f σ A N h hN hS hz hc hi hf
    obtain ⟨f, rfl⟩ : ∃ q, f = q + 1 := ⟨f - 1, by omega⟩
    have L := h.ra.lay
    unfold L_X12_addEntry_60
    rw [ltb_def, if_l (by omega) (by omega), if_pos (by omega), ckR_35 L]
    exact wp_bind (FR_good b0) (putEntry_wp h (by omega) hS hd hk hz hn) fun _ ρ2 h2 => wp_ret ((FR_good b0).1 _) h2
  | succ m ih =>
    intro i f σ A N h hN hS hz hc hi hf
    obtain ⟨f, rfl⟩ : ∃ q, f = q + 1 := ⟨f - 1, by omega⟩
    have L := h.ra.lay
    have l1 := has_le h.ok hd hk
    have hx : ex A d k (2 + i) < 554080 := by unfold ex; omega
    have hci := hc i (by omega)
    unfold L_X12_addEntry_60
    rw [ltb_def, if_l (by omega) (by omega), if_neg (by omega), ckR_35 L, show (2 : Int32) + nI i = nI (2 + i) from nI_add 2 i, entryAt_eq h.ra h.ok hd hk (by omega) hz, cll_some, ckR_67 L, ckI_n (by omega) (by omega), ckR_35 L, nI_cl (by omega), rd_67 h.ra, sb_nI hci]
    refine wp_bind (FR_good b0) (put_wp (N' := N + 1) h (by omega) hx ?_ (Or.inl ?_)) fun _ ρ h1 => ?_
    · unfold ex
      rw [bT_r _ (by omega)]
      unfold bR
      repeat (first | omega | split)
    · unfold ex
      rw [usd_oth (fun q => ne_us (by omega) (by omega))]
      omega
    · rw [ltb_def, ofi]
      have hs : hasA (up2 A 36 (ex A d k (2 + i)) (A 67 i)) d (k / 8) = hasA A d (k / 8) := has_ent (w := 34 + k % 8 * 30 + (2 + i)) (by omega) (by omega) hd hk
      have e67 : up2 A 36 (ex A d k (2 + i)) (A 67 i) 67 = A 67 := up2_rown (by decide)
      have := ih (i + 1) f ρ _ (N + 1) h1 (by omega) hS (by rw [hs]; exact hz) (by rw [e67]; exact hc) (by omega) (by omega)
      rw [e67] at this
      unfold nmL
      exact mwp this fun _ τ q => RM_le q (by omega)
theorem add44 {d k many n : Nat} (h : RM b0 J σ A N) (hN : N + 40 < 65536) (hS : okS A) (hd : d < 64) (hk : k / 8 < 1064) (hz : hasA A d (k / 8) ≠ 0) (hm : many < 29) (hn : n < 65) (hc : ∀ i, i < many → A 67 i < 128) (hu : 10000 ≤ fu) : wp (FR b0) σ (J_X12_addEntry_44 b0 fu (b0 + 35) (nI d) (b0 + 67) (nI many) (nI n) (nI k) σ) (fun _ τ => RM b0 J τ (add2 A d k (A 67) many n) (N + 30)) := by
  have L := h.ra.lay
  have l1 := has_le h.ok hd hk
  have hx : ex A d k 1 < 554080 := by unfold ex; omega
  unfold J_X12_addEntry_44
  rw [ckR_35 L]
  show wp (FR b0) σ (cll (m_X12_entryAt b0 fu (b0 + 35) (nI d) (nI k) (nI 1) σ) _) _
  rw [entryAt_eq h.ra h.ok hd hk (by omega) hz, cll_some, ckR_35 L]
  refine wp_bind (FR_good b0) (put_wp (N' := N + 1) h (by omega) hx ?_ (Or.inl ?_)) fun _ ρ h1 => ?_
  · unfold ex
    rw [bT_r _ (by omega)]
    unfold bR
    repeat (first | omega | split)
  · unfold ex
    rw [usd_oth (fun q => ne_us (by omega) (by omega))]
    omega
  · have hs : hasA (up2 A 36 (ex A d k 1) many) d (k / 8) = hasA A d (k / 8) := has_ent (w := 34 + k % 8 * 30 + 1) (by omega) (by omega) hd hk
    have e67 : up2 A 36 (ex A d k 1) many 67 = A 67 := up2_rown (by decide)
    have := add60 (fu := fu) hd hk hm hn many 0 fu ρ _ (N + 1) h1 (by omega) hS (by rw [hs]; exact hz) (by rw [e67]; exact hc) (by omega) (by omega)
    rw [e67] at this
    exact mwp this fun _ τ q => RM_le q (by omega)
theorem addEntry_wp {d many n : Nat} (h : RM b0 J σ A N) (hN : N + 80 < 65536) (hS : okS A) (hs : A 35 34 + 3 < 1000000) (hD : dirOk A d) (hi : ffA A d / 8 < 1063) (hm : many < 29) (hn : n < 65) (hc : ∀ i, i < many → A 67 i < 128) (hu : 10000 ≤ fu)
    (h1 : ffA A d = eAll A d → 8 ≤ ffA A d / 8 → ffA A d / 8 < 40 → nd A d 93 = 0 → 0 < fre (up2 A 50 d 1)) (h2 : ffA A d = eAll A d → 40 ≤ ffA A d / 8 → nd (ens1 (up2 A 50 d 1) d (ffA A d / 8)) d 94 = 0 → 0 < fre (ens1 (up2 A 50 d 1) d (ffA A d / 8))) (ho : ffA A d = eAll A d → ensOk (ens2 (ens1 (up2 A 50 d 1) d (ffA A d / 8)) d (ffA A d / 8)) d (ffA A d / 8))
    (hz : hasA (add1 A d) d (ffA A d / 8) ≠ 0) (hS2 : okS (add1 A d)) (h67 : add1 A d 67 = A 67) : wp (FR b0) σ (m_X12_addEntry b0 fu (b0 + 35) (nI d) (b0 + 67) (nI many) (nI n) σ) (fun _ τ => RM b0 J τ (addA A d (A 67) many n) (N + 51)) := by
  have L := h.ra.lay
  have ea : eAll A d < 8512 := by have := hD.2.1; unfold eAll; omega
  have ef : ffA A d ≤ eAll A d := by have := (sr_le (fun k => eN A d k == 64) (eAll A d) 0).2; unfold ffA; omega
  refine wp_grw (FR_good b0) ?_
  rw [ckR_35 L, firstFree_eq h.ra h.ok hD hu, cll_some, ckR_35 L, entries_eq h.ra h.ok hD.1, cll_some, if_e (by omega) (by omega)]
  have fin : ∀ σ' N', RM b0 J σ' (add1 A d) N' → N' ≤ N + 21 → wp (FR b0) σ' (J_X12_addEntry_44 b0 fu (b0 + 35) (nI d) (b0 + 67) (nI many) (nI n) (nI (ffA A d)) σ') (fun _ τ => RM b0 J τ (addA A d (A 67) many n) (N + 51)) := by
    intro σ' N' h' hN'
    have := add44 (fu := fu) (k := ffA A d) (n := n) (many := many) h' (by omega) hS2 hD.1 (by omega) hz hm hn (by rw [h67]; exact hc) hu
    rw [h67] at this
    exact mwp this fun _ τ q => RM_le q (by omega)
  by_cases e : ffA A d = eAll A d
  · rw [if_pos e, ckR_35 L]
    have i8 : nI (ffA A d) / 8 = nI (ffA A d / 8) := nI_dv (d := 8) (by omega) (by omega) (by omega)
    rw [i8]
    refine wp_bind (FR_good b0) (ensure_wp h (by omega) hS hs (by omega) hD.1 (by omega) (fun _ => h1 e) (fun _ => h2 e) (fun _ => ho e)) fun _ ρ hr => ?_
    rw [ckR_35 hr.ra.lay]
    have m1 : (256 : Int32) * (nI (ffA A d / 8) + 1) = nI (256 * (ffA A d / 8 + 1)) := by
      rw [show nI (ffA A d / 8) + 1 = nI (ffA A d / 8 + 1) from nI_1 _]
      exact pk_mul 256 _
    rw [m1]
    refine wp_bind (FR_good b0) (putNode_wp (w := 1) hr (by omega) hD.1 (by omega) (by show _ < 272385; omega)) fun _ ρ2 hr2 => ?_
    have e1 : add1 A d = setN (ensA A d (ffA A d / 8)) d 1 (256 * (ffA A d / 8 + 1)) := if_pos e
    exact fin ρ2 _ (by rw [e1]; exact hr2) (by omega)
  · rw [if_neg e]
    have e1 : add1 A d = A := if_neg e
    exact fin σ N (by rw [e1]; exact h) (by omega)
theorem isBare_loop (h : RA b0 σ A) (hT : okT A) {d i : Nat} (hd : d < 64) (hi : i < 1064) (hz : hasA A d i ≠ 0) : ∀ m k f, k + m = 8 * i + 8 → m ≤ 8 → m < f → L_X12_isBare_5 b0 fu f (b0 + 35) (nI d) (nI i) (nI k) σ = some (nI (if sr (fun k => eN A d k != 64) k m = 8 * i + 8 then 1 else 0), σ) := by
  have L := h.lay
  intro m
  induction m with
  | zero =>
    intro k f hk hm hf
    obtain ⟨f, rfl⟩ : ∃ q, f = q + 1 := ⟨f - 1, by omega⟩
    simp (disch := first | assumption | omega) only [L_X12_isBare_5, lits, nI_add, pk_mul, ofi, ltb_def, cll_some, grw_same, osm_some, ckZ_0, ckZ_1, nI_cl, nI_eqP, nI_leP, nI_ltP, nI_dv, nI_md, nI_sb, ckI_n]
    rw [if_pos (by omega), if_pos (by unfold sr; omega)]
  | succ m ih =>
    intro k f hk hm hf
    obtain ⟨f, rfl⟩ : ∃ q, f = q + 1 := ⟨f - 1, by omega⟩
    have b1 := eN_lt hT d k
    have k8 : k / 8 = i := by omega
    simp (disch := first | assumption | omega) only [L_X12_isBare_5, lits, nI_add, pk_mul, ofi, ltb_def, cll_some, grw_same, osm_some, ckZ_0, ckZ_1, nI_cl, nI_eqP, nI_leP, nI_ltP, nI_dv, nI_md, nI_sb, ckI_n, ckR_35 L]
    rw [if_neg (by omega), entryNode_eq h hT hd (by omega) (by rw [k8]; exact hz), cll_some, if_e (by omega) (by omega)]
    by_cases e : eN A d k = 64
    · rw [if_pos e, ih (k + 1) f (by omega) (by omega) (by omega)]
      simp [sr, e]
    · rw [if_neg e]
      have : sr (fun k => eN A d k != 64) k (m + 1) = k := by simp [sr, e]
      rw [this, if_neg (by omega)]
theorem isBare_eq (h : RA b0 σ A) (hT : okT A) {d i : Nat} (hd : d < 64) (hi : i < 1064) (hz : hasA A d i ≠ 0) (hu : 10000 ≤ fu) : m_X12_isBare b0 fu (b0 + 35) (nI d) (nI i) σ = some (nI (b2n (bareA A d i)), σ) := by
  unfold m_X12_isBare
  rw [ltb_def, show (8 : Int32) * nI i = nI (8 * i) from pk_mul 8 i, isBare_loop h hT hd hi hz 8 (8 * i) fu rfl (by omega) (by omega), grw_same]
  simp [bareA, b2n]
theorem rem21 {d : Nat} (hd : d < 64) (hu : 10000 ≤ fu) : ∀ c f σ A N, RM b0 J σ A N → N + c + 1 < 65536 → c < 1064 → c + 1 < f → remOk d c A → wp (FR b0) σ (L_X12_removeEntry_21 b0 fu f (b0 + 35) (nI d) (nI c - 1) σ) (fun _ τ => RM b0 J τ (remL d c A) (N + c)) := by
  intro c
  induction c with
  | zero =>
    intro f σ A N h hN hc hf ho
    obtain ⟨f, rfl⟩ : ∃ q, f = q + 1 := ⟨f - 1, by omega⟩
    unfold L_X12_removeEntry_21
    rw [ltb_def, if_pos (show nI 0 - 1 < 0 by decide)]
    exact wp_ret ((FR_good b0).1 _) h
  | succ c ih =>
    intro f σ A N h hN hc hf ho
    obtain ⟨f, rfl⟩ : ∃ q, f = q + 1 := ⟨f - 1, by omega⟩
    obtain ⟨o1, o2, o3, o4⟩ := ho
    have L := h.ra.lay
    have e1 : nI (c + 1) - 1 = nI c := nI_sb (a := c + 1) (b := 1) (by omega)
    unfold L_X12_removeEntry_21 remL
    rw [ltb_def, e1]
    show wp (FR b0) σ (if nI c < nI 0 then _ else _) _
    rw [if_t (by omega) (by omega), if_neg (by omega), ckR_35 L, isBare_eq h.ra h.ok hd (by omega) o1 hu, cll_some]
    cases eb : bareA A d c with
    | false =>
      rw [if_pos (show nI (b2n false) = 0 from rfl), if_neg (by decide)]
      exact wp_ret ((FR_good b0).1 _) (RM_le h (by omega))
    | true =>
      rw [if_neg (show ¬ nI (b2n true) = 0 by decide), if_pos rfl, ckR_35 L]
      refine wp_bind (FR_good b0) (drop_wp h (by omega) o3 (by omega) hd (by omega) o2) fun _ ρ h1 => ?_
      rw [ckR_35 h1.ra.lay, show (256 : Int32) * nI c = nI (256 * c) from pk_mul 256 c]
      refine wp_bind (FR_good b0) (putNode_wp (w := 1) h1 (by omega) hd (by omega) (by show _ < 272385; omega)) fun _ ρ2 h2 => ?_
      rw [ltb_def]
      have e2 : nI c + Int32.ofInt (-1) = nI c - 1 := by
        rw [Int32.sub_eq_add_neg]
        rfl
      rw [e2]
      exact mwp (ih f ρ2 _ _ h2 (by omega) (by omega) (by omega) (o4 eb)) fun _ τ q => RM_le q (by omega)
theorem removeEntry_wp {d k : Nat} (h : RM b0 J σ A N) (hN : N + 1100 < 65536) (hS : okS A) (hd : d < 64) (hk : k / 8 < 1064) (hz : hasA A d (k / 8) ≠ 0) (hs : nd A d 1 / 256 < 1064) (ho : remOk d (nd (putE A d k 64) d 1 / 256) (putE A d k 64)) (hu : 10000 ≤ fu) : wp (FR b0) σ (m_X12_removeEntry b0 fu (b0 + 35) (nI d) (nI k) σ) (fun _ τ => RM b0 J τ (remA A d k) (N + 1 + nd A d 1 / 256)) := by
  have L := h.ra.lay
  refine wp_grw (FR_good b0) ?_
  rw [ckR_35 L]
  show wp (FR b0) σ (cll (m_X12_putEntry b0 fu (b0 + 35) (nI d) (nI k) (nI 64) σ) _) _
  refine wp_bind (FR_good b0) (putEntry_wp h (by omega) hS hd hk hz (by omega)) fun _ ρ h1 => ?_
  rw [ckR_35 h1.ra.lay]
  show wp (FR b0) ρ (cll (m_X12_node b0 fu (b0 + 35) (nI d) (nI 1) ρ) _) _
  have e1 : nd (putE A d k 64) d 1 = nd A d 1 := by unfold nd putE ex; rw [up2_o (by decide), up2_j (by omega)]
  have b1 := sz_lt h.ok hd
  rw [node_nd h1.ra hd (by omega), cll_some, ltb_def]
  show wp (FR b0) ρ (L_X12_removeEntry_21 b0 fu fu (b0 + 35) (nI d) (nI (nd (putE A d k 64) d 1) / nI 256 - 1) ρ) _
  rw [nI_dv (by omega) (by omega) (by omega)]
  have := rem21 (fu := fu) hd hu (nd (putE A d k 64) d 1 / 256) fu ρ _ _ h1 (by omega) (by omega) (by omega) ho
  rw [e1] at this ⊢
  unfold remA
  rw [e1]
  exact this
end RZ
