/-! ===== PURE: the reference's public methods: make, create, mkdir ===== -/
/-- what addEntry asks for -/
def aeOk (A : tS) (d : Nat) : Prop :=
  okS A ∧ A 35 34 + 3 < 1000000 ∧ dirOk A d ∧ ffA A d / 8 < 1063 ∧
  (ffA A d = eAll A d → 8 ≤ ffA A d / 8 → ffA A d / 8 < 40 → nd A d 93 = 0 → 0 < fre (up2 A 50 d 1)) ∧
  (ffA A d = eAll A d → 40 ≤ ffA A d / 8 → nd (ens1 (up2 A 50 d 1) d (ffA A d / 8)) d 94 = 0 → 0 < fre (ens1 (up2 A 50 d 1) d (ffA A d / 8))) ∧
  (ffA A d = eAll A d → ensOk (ens2 (ens1 (up2 A 50 d 1) d (ffA A d / 8)) d (ffA A d / 8)) d (ffA A d / 8)) ∧
  hasA (add1 A d) d (ffA A d / 8) ≠ 0 ∧ okS (add1 A d) ∧ add1 A d 67 = A 67
/-- the first node that is free -/
def mkN (A : tS) : Nat := sr (fun n => nd A n 0 == 0) 0 64
def mk4 (A : tS) (n d kind : Nat) : tS := up2 (setN (setN (setN (setN A n 0 kind) n 1 0) n 2 (if kind = 2 then 0 else 1)) n 3 (if kind = 2 then d else 0)) 50 n 0
def mkX (A : tS) (d kind : Nat) : Int × tS :=
  if fA A d (A 67) (A 35 53) < eAll A d then (-2, A) else if 28 < A 35 53 then (-7, A) else if mkN A = 64 then (-10, A) else if lkA A d then (-6, A)
  else ((mkN A : Int), addA (mk4 A (mkN A) d kind) d (A 67) (A 35 53) (mkN A))
/-- what stands after the walk -/
def wa1 (A : tS) (w s : Nat) : tS := up2 (cp67 A w (lsF A w) (lsN A w)) 35 51 s
def mkY (A : tS) (kind s : Nat) : Int × tS := if waA A 0 < 0 then (waA A 0, wa1 A 0 s) else mkX (wa1 A 0 s) (waA A 0).toNat kind
def mkOk (A : tS) (kind : Nat) : Prop := ∀ s, 0 ≤ waA A 0 → mkN A < 64 → lkA (wa1 A 0 s) (waA A 0).toNat = false → aeOk (mk4 (wa1 A 0 s) (mkN A) (waA A 0).toNat kind) (waA A 0).toNat
def offX (Q : Int32 → tM → Prop) (b0 N : Nat) (s : tP) : Prop := ∀ τ, RM b0 s.2 τ (up2 s.1 35 0 1) N → Q (nI 0) τ
section MK
variable {b0 fu : Nat} {σ τ : tM} {A B U : tS} {N K K' : Nat} {J : tJ}
theorem pub_wp {k : tM → Option (Int32 × tM)} {Q : Int32 → tM → Prop} (h : RM b0 J σ A N) (hl : A 35 6 ≤ 4096) (ho : uaOk (up2 A 35 0 0) J) (hu : 1200000 ≤ fu)
    (hk : ∀ un s ρ, un ≤ N → uaX (up2 A 35 0 0) J un = .inl s → RM b0 s.2 ρ s.1 N → wp (FR b0) ρ (k ρ) Q)
    (hx : ∀ un s, un ≤ N → uaX (up2 A 35 0 0) J un = .inr s → offX Q b0 N s) :
    wp (FR b0) σ (ckO b0 σ (b0 + 35) 11 (cly (m_X12_upAhead b0 fu (b0 + 35) (sI σ (b0 + 35) 0 0)) (fun _ ρ4 => ckO b0 ρ4 (b0 + 35) 11 (k ρ4)) (fun ρ12 => ckO b0 ρ12 (b0 + 35) 11 (cll (m_X12_off b0 fu (b0 + 35) ρ12) (fun v15 ρ16 => some (v15, ρ16)))))) Q := by
  have L := h.ra.lay
  rw [ckR_35 L]
  have h1 : RM b0 J (sI σ (b0 + 35) 0 0) (up2 A 35 0 0) N := RM_fix (x := 0) h rfl (by decide) rfl (by decide)
  refine wp_from (FR_good b0) (FR_sI (refO_f 35 (by omega) (by omega))) (wp_cly (FR_good b0) (upAhead_wp (fu := fu) h1 (by rw [up2_j (by decide)]; exact hl) ho hu) ?_ ?_)
  · intro v ρ ⟨un, q1, q2⟩
    cases e : uaX (up2 A 35 0 0) J un with
    | inl s =>
      rw [e] at q2
      rw [ckR_35 q2.2.ra.lay]
      exact hk un s ρ q1 e q2.2
    | inr s =>
      rw [e] at q2
      exact absurd q2.1 (fun e => by cases e)
  · intro ρ ⟨un, q1, q2⟩
    cases e : uaX (up2 A 35 0 0) J un with
    | inl s =>
      rw [e] at q2
      exact absurd q2.1 (fun e => by cases e)
    | inr s =>
      rw [e] at q2
      rw [ckR_35 q2.2.ra.lay]
      refine wp_bind (FR_good b0) (off_wp (fu := fu) q2.2) ?_
      intro v ρ2 ⟨e1, q3⟩
      subst e1
      exact wp_ret ((FR_good b0).1 _) (hx un s q1 e ρ2 q3)
theorem lose_wp {n : Nat} (h : RM b0 J σ A N) (hN : N + 3 < 65536) (hu : 3000 ≤ fu) (hn : n < 64) (h1 : 1 ≤ nd A n 2)
    (ho : nd (setN A n 2 (nd A n 2 - 1)) n 2 = 0 → opA (setN A n 2 (nd A n 2 - 1)) n = false → nd (setN A n 2 (nd A n 2 - 1)) n 0 = 1 → 0 < nd (setN A n 2 (nd A n 2 - 1)) n 1 → ddOk n 0 ((nd (setN A n 2 (nd A n 2 - 1)) n 1 - 1) / 256 + 1) (zb (up2 (setN (setN A n 2 (nd A n 2 - 1)) n 1 0) 50 n 1) n 0)) :
    wp (FR b0) σ (m_X12_lose b0 fu (b0 + 35) (nI n) σ) (fun v τ => v = nI (nd A n 2 - 1) ∧ RM b0 J τ (mfA (setN A n 2 (nd A n 2 - 1)) n) (N + 3)) := by
  have L := h.ra.lay
  have b2 : nd A n 2 < 256 := by
    have := h.ok (n * 95 + 2)
    rw [bT_n hn (by omega)] at this
    exact this
  refine wp_grw (FR_good b0) ?_
  rw [ckR_35 L]
  show wp (FR b0) σ (cll (m_X12_node b0 fu (b0 + 35) (nI n) (nI 2) σ) _) _
  rw [node_nd h.ra hn (by omega), cll_some, ltb_def, ckR_35 L, show nI (nd A n 2) - 1 = nI (nd A n 2 - 1) from nI_sb (b := 1) h1]
  refine wp_bind (FR_good b0) (putNode_wp (fu := fu) (w := 2) h (by omega) hn (by omega) (show nd A n 2 - 1 < 256 by omega)) ?_
  intro _ ρ h2
  rw [ckR_35 h2.ra.lay]
  refine wp_bind (FR_good b0) (maybeFree_wp (fu := fu) h2 (by omega) hu hn ho) ?_
  intro _ ρ2 h3
  exact wp_ret ((FR_good b0).1 _) ⟨rfl, h3⟩
theorem wa_bd (hT : okT A) {w : Nat} : -10 ≤ waA A w ∧ waA A w < 64 ∧ (0 ≤ waA A w → nd A (waA A w).toNat 0 = 2) := by
  have hbd : -10 ≤ wkA A true (cps [] (seg (A (62 + w)) 0 (lsF A w))) ∧ wkA A true (cps [] (seg (A (62 + w)) 0 (lsF A w))) < 64 := wk_bd hT true 1000 0 0 (cps [] (seg (A (62 + w)) 0 (lsF A w))) (by omega)
  unfold waA
  generalize wkA A true (cps [] (seg (A (62 + w)) 0 (lsF A w))) = R at hbd ⊢
  split
  · exact ⟨hbd.1, hbd.2, fun q => by omega⟩
  · split
    · exact ⟨by omega, by omega, fun q => by omega⟩
    · split
      · rename_i q
        exact ⟨hbd.1, hbd.2, fun _ => q⟩
      · exact ⟨by omega, by omega, fun q => by omega⟩
theorem wa1_36 {w s : Nat} (A : tS) : wa1 A w s 36 = A 36 := by
  funext j
  unfold wa1
  rw [up2_o (by decide)]
  show cp67 A w (lsF A w) (lsN A w) 36 j = _
  rw [cp67_o (by decide), up2_o (by decide)]
theorem wa1_53 {w s : Nat} (A : tS) : wa1 A w s 35 53 = lsN A w := by
  unfold wa1
  rw [up2_j (by decide), cp67_o (by decide), up2_s]
theorem wa1_67 {w s i : Nat} (A : tS) (hi : i < lsN A w) : wa1 A w s 67 i = A (62 + w) (lsF A w + i) := by
  unfold wa1
  rw [up2_o (by decide)]
  exact if_pos ⟨rfl, hi⟩
theorem ls_le (A : tS) (w : Nat) : lsF A w + lsN A w ≤ A 64 w := by
  have le1 := laE_le (A (62 + w)) (A 64 w)
  have lf1 := laF_le (A (62 + w)) (laE (A (62 + w)) (A 64 w))
  have e : lsN A w = laE (A (62 + w)) (A 64 w) - lsF A w := rfl
  have e2 : lsF A w = laF (A (62 + w)) (laE (A (62 + w)) (A 64 w)) := rfl
  omega
theorem wa1_128 {w s i : Nat} (hP : patOk A) (hw : w < 2) (hi : i < lsN A w) : wa1 A w s 67 i < 128 := by
  rw [wa1_67 A hi]
  have := ls_le A w
  have := ((hP w hw).2 (lsF A w + i) (by omega)).2
  omega
theorem nm67 (h : RA b0 σ A) {n : Nat} (hn : n ≤ 120) (hc : ∀ i, i < n → A 67 i < 128) : nmAt b0 σ (b0 + 67) 0 (A 67) n := by
  have L := h.lay
  have h74 := L.1
  exact ⟨⟨120, rkR67 L, by omega, by omega⟩, ⟨by omega, by omega⟩, fun i hi => ⟨by rw [Nat.zero_add, rd_67 h, sb_nI (hc i hi)], hc i hi⟩⟩
theorem mk46 (h : RA b0 σ A) (hT : okT A) {kind d : Nat} : ∀ m k f, k + m = 64 → m < f → L_X12_make_46 b0 fu f (b0 + 35) (nI kind) (nI d) (nI k) σ = J_X12_make_67 b0 fu (b0 + 35) (nI kind) (nI d) (nI (sr (fun n => nd A n 0 == 0) k m)) σ := by
  have L := h.lay
  intro m
  induction m with
  | zero =>
    intro k f hk hf
    obtain ⟨f, rfl⟩ : ∃ q, f = q + 1 := ⟨f - 1, by omega⟩
    unfold L_X12_make_46
    rw [ltb_def, show (64 : Int32) = nI 64 from rfl, if_l (by omega) (by omega), if_pos (by omega)]
    rfl
  | succ m ih =>
    intro k f hk hf
    obtain ⟨f, rfl⟩ : ∃ q, f = q + 1 := ⟨f - 1, by omega⟩
    unfold L_X12_make_46
    rw [ltb_def, show (64 : Int32) = nI 64 from rfl, if_l (by omega) (by omega), if_neg (by omega), ckR_35 L]
    show cll (m_X12_node b0 fu (b0 + 35) (nI k) (nI 0) σ) _ = _
    rw [node_nd h (by omega) (by omega), cll_some]
    show (if nI (nd A k 0) = nI 0 then _ else _) = _
    have b0' : nd A k 0 < 2147483648 := bd_36 h _
    rw [if_e b0' (by omega), show sr (fun n => nd A n 0 == 0) k (m + 1) = if (nd A k 0 == 0) = true then k else sr (fun n => nd A n 0 == 0) (k + 1) m from rfl]
    by_cases e : nd A k 0 = 0
    · rw [if_pos e, if_pos (by simp [e])]
    · rw [if_neg e, if_neg (by simp [e]), ltb_def, ofi, ih (k + 1) f (by omega) (by omega)]
theorem aeOk_wp {d many n : Nat} (h : RM b0 J σ A N) (hN : N + 80 < 65536) (ho : aeOk A d) (hm : many < 29) (hn : n < 65) (hc : ∀ i, i < many → A 67 i < 128) (hu : 10000 ≤ fu) : wp (FR b0) σ (m_X12_addEntry b0 fu (b0 + 35) (nI d) (b0 + 67) (nI many) (nI n) σ) (fun _ τ => RM b0 J τ (addA A d (A 67) many n) (N + 51)) := by
  obtain ⟨o1, o2, o3, o4, o5, o6, o7, o8, o9, o10⟩ := ho
  exact addEntry_wp h hN o1 o2 o3 o4 hm hn hc hu o5 o6 o7 o8 o9 o10
theorem mk4_67 {n d kind : Nat} : mk4 A n d kind 67 = A 67 := by
  funext j
  unfold mk4
  rw [up2_o (by decide), setN_o (by decide) (by decide), setN_o (by decide) (by decide), setN_o (by decide) (by decide), setN_o (by decide) (by decide)]
theorem mk4_53 {n d kind : Nat} : mk4 A n d kind 35 53 = A 35 53 := by
  unfold mk4
  rw [up2_o (by decide), setN_o (by decide) (by decide), setN_o (by decide) (by decide), setN_o (by decide) (by decide), setN_o (by decide) (by decide)]
theorem mk130 {n d v kind : Nat} {B : tS} (h : RM b0 J σ B N) (hN : N + 90 < 65536) (hn : n < 64) (hv : v < 64) (h4 : up2 (setN B n 3 v) 50 n 0 = mk4 A n d kind) (ho : aeOk (mk4 A n d kind) d) (hm : A 35 53 < 29) (hc : ∀ i, i < A 35 53 → A 67 i < 128) (hu : 10000 ≤ fu) :
    wp (FR b0) σ (J_X12_make_130 b0 fu (b0 + 35) (nI d) (nI n) (b0 + 35) (nI n) (nI 3) (nI v) σ) (fun r τ => r = nI n ∧ RM b0 J τ (addA (mk4 A n d kind) d (A 67) (A 35 53) n) (N + 52)) := by
  unfold J_X12_make_130
  rw [ckR_35 h.ra.lay]
  refine wp_bind (FR_good b0) (putNode_wp (fu := fu) (w := 3) h (by omega) hn (by omega) (show v < 64 from hv)) ?_
  intro _ ρ h2
  have L := h2.ra.lay
  rw [ckR_35 L, osm_p (rfR_35_25 L), ckR_50 L, ckI_n hn (by omega), nI_cl (by omega)]
  have h3 : RM b0 J (sI ρ (b0 + 50) n (vp_nar .boolean (0 : Int32))) (up2 (setN B n 3 v) 50 n 0) (N + 1) := RM_fix (x := 0) h2 (o := 50) (j := n) rfl (by decide) rfl (by decide)
  rw [h4] at h3
  have L3 := h3.ra.lay
  refine wp_from (FR_good b0) (FR_sI (v := vp_nar .boolean (0 : Int32)) (j := n) (refO_f 50 (by omega) (by omega))) ?_
  rw [osm_p (rfR_35_52 L3), rf_53 h3.ra, mk4_53]
  refine wp_bind (FR_good b0) (aeOk_wp (fu := fu) h3 (by omega) ho hm (by omega) (fun i hi => by rw [mk4_67]; exact hc i hi) hu) ?_
  intro _ ρ2 h5
  rw [mk4_67] at h5
  exact wp_ret ((FR_good b0).1 _) ⟨rfl, h5⟩
theorem mk67 {d kind : Nat} (h : RM b0 J σ A N) (hN : N + 100 < 65536) (hk : 1 ≤ kind ∧ kind < 4) (hD : dirOk A d) (hr : A 35 7 ≤ 2000) (ho : mkN A < 64 → lkA A d = false → aeOk (mk4 A (mkN A) d kind) d) (hm : A 35 53 < 29) (hc : ∀ i, i < A 35 53 → A 67 i < 128) (hu : 10000 ≤ fu) :
    wp (FR b0) σ (J_X12_make_67 b0 fu (b0 + 35) (nI kind) (nI d) (nI (mkN A)) σ) (fun r τ => ∃ x, x = (if mkN A = 64 then (-10, A) else if lkA A d then (-6, A) else ((mkN A : Int), addA (mk4 A (mkN A) d kind) d (A 67) (A 35 53) (mkN A))) ∧ r = iz x.1 ∧ RM b0 J τ x.2 (N + 55)) := by
  have L := h.ra.lay
  have b64 : mkN A ≤ 0 + 64 := (sr_le _ 64 0).2
  have hd : d < 64 := hD.1
  unfold J_X12_make_67
  rw [show (64 : Int32) = nI 64 from rfl, if_e (by omega) (by omega)]
  by_cases e : mkN A = 64
  · rw [if_pos e, if_pos e]
    exact wp_ret ((FR_good b0).1 _) ⟨_, rfl, rfl, RM_le h (by omega)⟩
  · rw [if_neg e, if_neg e, ckR_35 L, lacks_eq h.ra h.ok hD hr hu, cll_some]
    have ho := ho (by omega)
    have hn : mkN A < 64 := by omega
    generalize mkN A = n at hn ho ⊢
    cases q : lkA A d with
    | true =>
      rw [if_neg (show ¬ nI (b2n true) = 0 by decide), if_pos rfl]
      exact wp_ret ((FR_good b0).1 _) ⟨_, rfl, rfl, RM_le h (by omega)⟩
    | false =>
      have ho := ho q
      rw [if_pos (show nI (b2n false) = 0 by decide), if_neg (show ¬ false = true by decide), ckR_35 L]
      refine wp_bind (FR_good b0) (putNode_wp (fu := fu) (w := 0) h (by omega) hn (by omega) (show kind < 4 from hk.2)) ?_
      intro _ ρ1 h1
      rw [ckR_35 h1.ra.lay]
      refine wp_bind (FR_good b0) (putNode_wp (fu := fu) (w := 1) (v := 0) h1 (by omega) hn (by omega) (show 0 < 272385 by omega)) ?_
      intro _ ρ2 h2
      show wp (FR b0) ρ2 (if nI kind = nI 2 then J_X12_make_114 b0 fu (b0 + 35) (nI kind) (nI d) (nI n) (b0 + 35) (nI n) (nI 2) (nI 0) ρ2 else J_X12_make_114 b0 fu (b0 + 35) (nI kind) (nI d) (nI n) (b0 + 35) (nI n) (nI 2) (nI 1) ρ2) _
      rw [if_e (by omega) (by omega)]
      have fin : ∀ v, (v = if kind = 2 then 0 else 1) → wp (FR b0) ρ2 (J_X12_make_114 b0 fu (b0 + 35) (nI kind) (nI d) (nI n) (b0 + 35) (nI n) (nI 2) (nI v) ρ2) (fun r τ => ∃ x, x = ((n : Int), addA (mk4 A n d kind) d (A 67) (A 35 53) n) ∧ r = iz x.1 ∧ RM b0 J τ x.2 (N + 55)) := by
        intro v hv
        have v2 : v < 2 := by split at hv <;> omega
        unfold J_X12_make_114
        rw [ckR_35 h2.ra.lay]
        refine wp_bind (FR_good b0) (putNode_wp (fu := fu) (w := 2) h2 (by omega) hn (by omega) (show v < 256 by omega)) ?_
        intro _ ρ3 h3
        show wp (FR b0) ρ3 (if nI kind = nI 2 then J_X12_make_130 b0 fu (b0 + 35) (nI d) (nI n) (b0 + 35) (nI n) (nI 3) (nI d) ρ3 else J_X12_make_130 b0 fu (b0 + 35) (nI d) (nI n) (b0 + 35) (nI n) (nI 3) (nI 0) ρ3) _
        rw [if_e (by omega) (by omega)]
        by_cases k2 : kind = 2
        · rw [if_pos k2]
          obtain ⟨w1, τ1, x1, x2, x3, x4⟩ := mk130 (fu := fu) (A := A) (d := d) (kind := kind) h3 (by omega) hn hd (by rw [hv]; unfold mk4; simp only [if_pos k2]) ho hm hc hu
          exact ⟨w1, τ1, x1, x2, _, rfl, by rw [iz_n]; exact x3, x4⟩
        · rw [if_neg k2]
          obtain ⟨w1, τ1, x1, x2, x3, x4⟩ := mk130 (fu := fu) (A := A) (d := d) (kind := kind) (v := 0) h3 (by omega) hn (by omega) (by rw [hv]; unfold mk4; simp only [if_neg k2]) ho hm hc hu
          exact ⟨w1, τ1, x1, x2, _, rfl, by rw [iz_n]; exact x3, x4⟩
      by_cases k2 : kind = 2
      · rw [if_pos k2]
        exact fin 0 (by rw [if_pos k2])
      · rw [if_neg k2]
        exact fin 1 (by rw [if_neg k2])
theorem make_wp {kind : Nat} (h : RM b0 J σ A N) (hN : N + 100 < 65536) (hk : 1 ≤ kind ∧ kind < 4) (hP : patOk A) (hD : dirsOk A) (hr : A 35 7 ≤ 2000) (ho : mkOk A kind) (hu : 10000 ≤ fu) :
    wp (FR b0) σ (m_X12_make b0 fu (b0 + 35) (nI kind) σ) (fun v τ => ∃ s, v = iz (mkY A kind s).1 ∧ RM b0 J τ (mkY A kind s).2 (N + 55)) := by
  have L := h.ra.lay
  obtain ⟨a1, a2, a3⟩ := wa_bd (w := 0) h.ok
  refine wp_grw (FR_good b0) ?_
  rw [ckR_35 L]
  refine wp_bind (FR_good b0) (walkAhead_wp (fu := fu) (w := 0) h (by omega) hP hD hu) ?_
  intro v ρ ⟨e1, s, h1⟩
  subst e1
  have h1 : RM b0 J ρ (wa1 A 0 s) N := h1
  have L1 := h1.ra.lay
  have ge := iz_ge a1 a2
  have ok := ho s
  have e36 := wa1_36 (w := 0) (s := s) A
  have e53 := wa1_53 (w := 0) (s := s) A
  have ll := ls_le A 0
  have l120 := (hP 0 (by omega)).1
  have hc : ∀ i, i < lsN A 0 → wa1 A 0 s 67 i < 128 := fun i hi => wa1_128 hP (by omega) hi
  obtain ⟨o1, o2, o3, o4, o5, o6, o7, o8⟩ := on36 e36
  have eN' : mkN (wa1 A 0 s) = mkN A := by unfold mkN; rw [o1]
  have e7 : wa1 A 0 s 35 7 = A 35 7 := by unfold wa1; rw [up2_j (by decide), cp67_o (by decide), up2_j (by decide)]
  by_cases c : waA A 0 < 0
  · rw [if_neg (fun q => by have := ge.mp q; omega)]
    have eY : mkY A kind s = (waA A 0, wa1 A 0 s) := if_pos c
    exact wp_ret ((FR_good b0).1 _) ⟨s, by rw [eY], by rw [eY]; exact RM_le h1 (by omega)⟩
  · rw [if_pos (ge.mpr (by omega))]
    have eY : mkY A kind s = mkX (wa1 A 0 s) (waA A 0).toNat kind := if_neg c
    have a3 := a3 (by omega)
    have ok := ok (by omega)
    obtain ⟨d, hd⟩ : ∃ d : Nat, waA A 0 = (d : Int) := ⟨(waA A 0).toNat, by omega⟩
    rw [hd, Int.toNat_natCast] at eY a3 ok
    rw [hd, iz_n]
    have d64 : d < 64 := by omega
    have hDd : dirOk (wa1 A 0 s) d := by
      have := hD d d64 a3
      unfold dirOk at this ⊢
      rw [o1, o4]
      exact this
    rw [← eN'] at ok
    generalize wa1 A 0 s = B at *
    unfold mkX at eY
    rw [ckR_35 L1, osm_p (rfR_35_52 L1), rf_53 h1.ra, e53]
    show wp (FR b0) ρ (cll (m_X12_find b0 fu (b0 + 35) (nI d) (b0 + 67) (nI 0) (nI (lsN A 0)) ρ) _) _
    rw [find_eq h1.ra h1.ok hDd (by omega) (nm67 h1.ra (by omega) hc) hu, cll_some]
    have ea : eAll B d < 8512 := by have := hDd.2.1; unfold eAll; omega
    rw [e53] at eY
    by_cases c1 : fA B d (B 67) (lsN A 0) < eAll B d
    · rw [if_pos c1] at eY
      rw [if_pos c1, if_neg (show ¬ nI (fA B d (B 67) (lsN A 0)) < 0 from nI_pos (by omega))]
      exact wp_ret ((FR_good b0).1 _) ⟨s, by rw [eY]; rfl, by rw [eY]; exact RM_le h1 (by omega)⟩
    · rw [if_neg c1] at eY
      rw [if_neg c1, if_pos (show (-1 : Int32) < 0 by decide), ckR_35 L1, rf_53 h1.ra, e53, show (28 : Int32) = nI 28 from rfl, if_l (by omega) (by omega)]
      by_cases c2 : 28 < lsN A 0
      · rw [if_pos c2] at eY
        rw [if_neg (by omega)]
        exact wp_ret ((FR_good b0).1 _) ⟨s, by rw [eY]; rfl, by rw [eY]; exact RM_le h1 (by omega)⟩
      · rw [if_neg c2] at eY
        rw [if_pos (by omega)]
        have hm46 := mk46 (fu := fu) (kind := kind) (d := d) h1.ra h1.ok 64 0 fu (by omega) (by omega)
        show wp (FR b0) ρ (L_X12_make_46 b0 fu fu (b0 + 35) (nI kind) (nI d) (nI 0) ρ) _
        rw [hm46]
        obtain ⟨w1, τ1, x1, x2, x, x3, x4, x5⟩ := mk67 (fu := fu) (d := d) h1 hN hk hDd (by rw [e7]; exact hr) ok (by rw [e53]; omega) (by rw [e53]; exact hc) hu
        rw [e53] at x3
        rw [← x3] at eY
        exact ⟨w1, τ1, x1, x2, s, by rw [eY]; exact x4, by rw [eY]; exact x5⟩
end MK
