/-! ===== PURE: the reference's public methods: create, mkdir, symlink ===== -/
/-- a public method: its first steps, then its own -/
def pubX (A : tS) (J : tJ) (un s : Nat) (f : tS → Nat → Int × tS) : Int × tP :=
  match uaX (up2 A 35 0 0) J un with
  | .inl p => ((f p.1 s).1, ((f p.1 s).2, p.2))
  | .inr p => (0, (up2 p.1 35 0 1, p.2))
def PQ (b0 N N' : Nat) (A : tS) (J : tJ) (f : tS → Nat → Int × tS) (v : Int32) (τ : tM) : Prop :=
  ∃ un s, un ≤ N ∧ v = iz (pubX A J un s f).1 ∧ RM b0 (pubX A J un s f).2.2 τ (pubX A J un s f).2.1 N'
def slF (n : Nat) (tx : Nat → Nat) : Nat → Nat → tS → tS
  | _, 0, A => A
  | k, m + 1, A => slF n tx (k + 1) m (setN A n (5 + k) (tx k))
def syY (A : tS) (s : Nat) : Int × tS :=
  if A 64 1 < 1 then (-9, A) else if 80 < A 64 1 then (-9, A) else
  if (mkY A 3 s).1 < 0 then mkY A 3 s else ((mkY A 3 s).1, slF (mkY A 3 s).1.toNat (A 63) 0 (A 64 1) (setN (mkY A 3 s).2 (mkY A 3 s).1.toNat 4 (A 64 1)))
section SY
variable {b0 fu : Nat} {σ τ : tM} {A B U : tS} {N N' K K' : Nat} {J : tJ}
theorem pub2_wp {k : tM → Option (Int32 × tM)} {f : tS → Nat → Int × tS} (h : RM b0 J σ A N) (hl : A 35 6 ≤ 4096) (ho : uaOk (up2 A 35 0 0) J) (hu : 1200000 ≤ fu) (hN : N ≤ N')
    (hk : ∀ un p ρ, un ≤ N → uaX (up2 A 35 0 0) J un = .inl p → RM b0 p.2 ρ p.1 N → wp (FR b0) ρ (k ρ) (fun v τ => ∃ s, v = iz (f p.1 s).1 ∧ RM b0 p.2 τ (f p.1 s).2 N')) :
    wp (FR b0) σ (ckO b0 σ (b0 + 35) 11 (cly (m_X12_upAhead b0 fu (b0 + 35) (sI σ (b0 + 35) 0 0)) (fun _ ρ4 => ckO b0 ρ4 (b0 + 35) 11 (k ρ4)) (fun ρ12 => ckO b0 ρ12 (b0 + 35) 11 (cll (m_X12_off b0 fu (b0 + 35) ρ12) (fun v15 ρ16 => some (v15, ρ16)))))) (PQ b0 N N' A J f) := by
  refine pub_wp h hl ho hu ?_ ?_
  · intro un p ρ hun e q
    obtain ⟨v, τ, x1, x2, s, x3, x4⟩ := hk un p ρ hun e q
    have eX : pubX A J un s f = ((f p.1 s).1, ((f p.1 s).2, p.2)) := by unfold pubX; rw [e]
    exact ⟨v, τ, x1, x2, un, s, hun, by rw [eX]; exact x3, by rw [eX]; exact x4⟩
  · intro un p hun e τ q
    have eX : pubX A J un 0 f = (0, (up2 p.1 35 0 1, p.2)) := by unfold pubX; rw [e]
    exact ⟨un, 0, hun, by rw [eX]; rfl, by rw [eX]; exact RM_le q hN⟩
/-- what a method that makes asks for -/
def bdOk (A : tS) : Prop := patOk A ∧ dirsOk A ∧ A 35 7 ≤ 2000
theorem mkpub {kind : Nat} (hN : N + 100 < 65536) (hu : 1200000 ≤ fu) (hk : 1 ≤ kind ∧ kind < 4) {p : tP} {ρ : tM} (q : RM b0 p.2 ρ p.1 N) (hb : bdOk p.1) (ho : mkOk p.1 kind) :
    wp (FR b0) ρ (cll (m_X12_make b0 fu (b0 + 35) (nI kind) ρ) (fun v8 ρ9 => some (v8, ρ9))) (fun v τ => ∃ s, v = iz (mkY p.1 kind s).1 ∧ RM b0 p.2 τ (mkY p.1 kind s).2 (N + 55)) := by
  refine wp_bind (FR_good b0) (make_wp (fu := fu) q hN hk hb.1 hb.2.1 hb.2.2 ho (by omega)) ?_
  intro v ρ2 x
  exact wp_ret ((FR_good b0).1 _) x
theorem create_wp (h : RM b0 J σ A N) (hN : N + 100 < 65536) (hl : A 35 6 ≤ 4096) (ho : uaOk (up2 A 35 0 0) J) (hu : 1200000 ≤ fu) (hb : ∀ un p, un ≤ N → uaX (up2 A 35 0 0) J un = .inl p → bdOk p.1 ∧ mkOk p.1 1) :
    wp (FR b0) σ (m_X12_create b0 fu (b0 + 35) σ) (PQ b0 N (N + 55) A J (fun A s => mkY A 1 s)) :=
  wp_grw (FR_good b0) (pub2_wp h hl ho hu (by omega) (fun un p ρ hun e q => mkpub (kind := 1) hN hu (by omega) q (hb un p hun e).1 (hb un p hun e).2))
theorem mkdir_wp (h : RM b0 J σ A N) (hN : N + 100 < 65536) (hl : A 35 6 ≤ 4096) (ho : uaOk (up2 A 35 0 0) J) (hu : 1200000 ≤ fu) (hb : ∀ un p, un ≤ N → uaX (up2 A 35 0 0) J un = .inl p → bdOk p.1 ∧ mkOk p.1 2) :
    wp (FR b0) σ (m_X12_mkdir b0 fu (b0 + 35) σ) (PQ b0 N (N + 55) A J (fun A s => mkY A 2 s)) :=
  wp_grw (FR_good b0) (pub2_wp h hl ho hu (by omega) (fun un p ρ hun e q => mkpub (kind := 2) hN hu (by omega) q (hb un p hun e).1 (hb un p hun e).2))
theorem slF_o {n : Nat} {tx : Nat → Nat} {o j : Nat} (h1 : o ≠ 36) (h2 : o ≠ 51) : ∀ m k (A : tS), slF n tx k m A o j = A o j
  | 0, _, _ => rfl
  | m + 1, k, A => by
    show slF n tx (k + 1) m (setN A n (5 + k) (tx k)) o j = _
    rw [slF_o h1 h2 m (k + 1), setN_o h1 h2]
theorem sl59 {n T : Nat} (hn : n < 64) {tx : Nat → Nat} (hT : T ≤ 80) (ht : ∀ i, i < T → tx i < 128) : ∀ m k f (σ : tM) (A : tS) N, RM b0 J σ A N → A 63 = tx → A 64 1 = T → k + m = T → m < f → N + m < 65536 →
    wp (FR b0) σ (L_X12_symlink_59 b0 fu f (b0 + 35) (nI n) (nI k) σ) (fun v τ => v = nI n ∧ RM b0 J τ (slF n tx k m A) (N + m)) := by
  intro m
  induction m with
  | zero =>
    intro k f σ A N h h3 h4 hk hf hN
    obtain ⟨f, rfl⟩ : ∃ q, f = q + 1 := ⟨f - 1, by omega⟩
    have L := h.ra.lay
    unfold L_X12_symlink_59
    rw [ltb_def, ckR_35 L, osm_p (rfR_35_48 L), ckR_64 L, show (1 : Int32) = nI 1 from rfl, ckI_n (by omega) (by omega), nI_cl (by omega), rd_64 h.ra, if_l (by omega) (by omega), if_pos (by omega)]
    exact wp_ret ((FR_good b0).1 _) ⟨rfl, h⟩
  | succ m ih =>
    intro k f σ A N h h3 h4 hk hf hN
    obtain ⟨f, rfl⟩ : ∃ q, f = q + 1 := ⟨f - 1, by omega⟩
    have L := h.ra.lay
    have t1 := ht k (by omega)
    have wv : tx k < bN (5 + k) := by
      unfold bN
      rw [if_neg (by omega), if_neg (by omega), if_neg (by omega), if_neg (by omega), if_neg (by omega), if_pos (by omega)]
      exact t1
    unfold L_X12_symlink_59
    rw [ltb_def, ckR_35 L, osm_p (rfR_35_48 L), ckR_64 L, show (1 : Int32) = nI 1 from rfl, ckI_n (by omega) (by omega), nI_cl (by omega), rd_64 h.ra, if_l (by omega) (by omega), if_neg (by omega)]
    rw [osm_p (rfR_35_47 L), ckR_61 L, ckI_n (by omega) (by omega), osm_p (rfR_61_1 L), ckR_63 L, ckI_n (by omega) (by omega), nI_cl (by omega), rd_63 h.ra, h3, sb_nI t1]
    have e5 : (5 : Int32) + nI k = nI (5 + k) := nI_add 5 k
    rw [e5]
    refine wp_bind (FR_good b0) (putNode_wp (fu := fu) h (by omega) hn (by omega) wv) ?_
    intro _ ρ h2
    rw [ltb_def, ofi]
    obtain ⟨v, τ, x1, x2, x3, x4⟩ := ih (k + 1) f ρ _ _ h2 (by funext j; rw [setN_o (by decide) (by decide), h3]) (by rw [setN_o (by decide) (by decide), h4]) (by omega) (by omega) (by omega)
    exact ⟨v, τ, x1, x2, x3, RM_le x4 (by omega)⟩
def syOk (A : tS) : Prop := mkOk A 3 ∧ ∀ s, (mkY A 3 s).2 63 = A 63 ∧ (mkY A 3 s).2 64 = A 64
theorem mkY_bd (hT : okT A) {kind s : Nat} : -10 ≤ (mkY A kind s).1 ∧ (mkY A kind s).1 < 64 := by
  obtain ⟨a1, a2, a3⟩ := wa_bd (w := 0) hT
  have b64 : mkN (wa1 A 0 s) ≤ 0 + 64 := (sr_le _ 64 0).2
  unfold mkY mkX
  split
  · exact ⟨a1, a2⟩
  · split
    · exact ⟨by show (-10 : Int) ≤ -2; omega, by show (-2 : Int) < 64; omega⟩
    · split
      · exact ⟨by show (-10 : Int) ≤ -7; omega, by show (-7 : Int) < 64; omega⟩
      · split
        · exact ⟨by show (-10 : Int) ≤ -10; omega, by show (-10 : Int) < 64; omega⟩
        · split
          · exact ⟨by show (-10 : Int) ≤ -6; omega, by show (-6 : Int) < 64; omega⟩
          · exact ⟨by show (-10 : Int) ≤ (mkN (wa1 A 0 s) : Int); omega, by show (mkN (wa1 A 0 s) : Int) < 64; omega⟩
theorem symlink_wp (h : RM b0 J σ A N) (hN : N + 200 < 65536) (hl : A 35 6 ≤ 4096) (ho : uaOk (up2 A 35 0 0) J) (hu : 1200000 ≤ fu) (hb : ∀ un p, un ≤ N → uaX (up2 A 35 0 0) J un = .inl p → bdOk p.1 ∧ syOk p.1) :
    wp (FR b0) σ (m_X12_symlink b0 fu (b0 + 35) σ) (PQ b0 N (N + 136) A J syY) := by
  refine wp_grw (FR_good b0) (pub2_wp h hl ho hu (by omega) (fun un p ρ hun e q => ?_))
  obtain ⟨b1, b2, b3⟩ := hb un p hun e
  have L := q.ra.lay
  have bp := b1.1 1 (by omega)
  have ht : ∀ i, i < p.1 64 1 → p.1 63 i < 128 := fun i hi => by have : p.1 63 i ≤ 126 := (bp.2 i hi).2; omega
  have bp1 := bp.1
  rw [osm_p (rfR_35_48 L), ckR_64 L]
  show wp (FR b0) ρ (ckI (nI 1) 2 (if tI ρ (b0 + 64) (nI 1).toNatClampNeg < nI 1 then _ else _)) _
  rw [ckI_n (by omega) (by omega), nI_cl (by omega), rd_64 q.ra, if_t (by omega) (by omega)]
  unfold J_X12_symlink_30
  by_cases c1 : p.1 64 1 < 1
  · rw [if_pos c1]
    have eY : ∀ s, syY p.1 s = (-9, p.1) := fun s => if_pos c1
    exact wp_ret ((FR_good b0).1 _) ⟨0, by rw [eY]; rfl, by rw [eY]; exact RM_le q (by omega)⟩
  · rw [if_neg c1, osm_p (rfR_35_48 L), ckR_64 L]
    show wp (FR b0) ρ (ckI (nI 1) 2 (if tI ρ (b0 + 64) (nI 1).toNatClampNeg ≤ nI 80 then _ else _)) _
    rw [ckI_n (by omega) (by omega), nI_cl (by omega), rd_64 q.ra, if_l (by omega) (by omega)]
    by_cases c2 : 80 < p.1 64 1
    · rw [if_neg (by omega)]
      have eY : ∀ s, syY p.1 s = (-9, p.1) := fun s => by unfold syY; rw [if_neg c1, if_pos c2]
      exact wp_ret ((FR_good b0).1 _) ⟨0, by rw [eY]; rfl, by rw [eY]; exact RM_le q (by omega)⟩
    · rw [if_pos (by omega)]
      refine wp_bind (FR_good b0) (make_wp (fu := fu) (kind := 3) q (by omega) (by omega) b1.1 b1.2.1 b1.2.2 b2 (by omega)) ?_
      intro v ρ2 ⟨s, e1, h2⟩
      subst e1
      have eY : syY p.1 s = if (mkY p.1 3 s).1 < 0 then mkY p.1 3 s else ((mkY p.1 3 s).1, slF (mkY p.1 3 s).1.toNat (p.1 63) 0 (p.1 64 1) (setN (mkY p.1 3 s).2 (mkY p.1 3 s).1.toNat 4 (p.1 64 1))) := by unfold syY; rw [if_neg c1, if_neg c2]
      have mb := mkY_bd (kind := 3) (s := s) q.ok
      have m3 := b3 s
      have ge := iz_ge mb.1 mb.2
      generalize mkY p.1 3 s = Y at *
      by_cases c3 : Y.1 < 0
      · rw [if_pos c3] at eY
        rw [if_neg (fun q => by have := ge.mp q; omega)]
        exact wp_ret ((FR_good b0).1 _) ⟨s, by rw [eY], by rw [eY]; exact RM_le h2 (by omega)⟩
      · rw [if_neg c3] at eY
        rw [if_pos (ge.mpr (by omega))]
        obtain ⟨n, hn⟩ : ∃ n : Nat, Y.1 = (n : Int) := ⟨Y.1.toNat, by omega⟩
        rw [hn, Int.toNat_natCast] at eY
        rw [hn, iz_n]
        have n64 : n < 64 := by omega
        have L2 := h2.ra.lay
        rw [ckR_35 L2, osm_p (rfR_35_48 L2), ckR_64 L2]
        show wp (FR b0) ρ2 (ckI (nI 1) 2 (cll (m_X12_putNode b0 fu (b0 + 35) (nI n) (nI 4) (tI ρ2 (b0 + 64) (nI 1).toNatClampNeg) ρ2) (fun _ ρ35 => L_X12_symlink_59 b0 fu fu (b0 + 35) (nI n) (nI 0) ρ35))) _
        rw [ckI_n (by omega) (by omega), nI_cl (by omega), rd_64 h2.ra, m3.2]
        refine wp_bind (FR_good b0) (putNode_wp (fu := fu) (w := 4) h2 (by omega) n64 (by omega) (show p.1 64 1 < 81 by omega)) ?_
        intro _ ρ3 h3
        obtain ⟨v, τ, x1, x2, x3, x4⟩ := sl59 (fu := fu) n64 (T := p.1 64 1) (tx := p.1 63) (by omega) ht (p.1 64 1) 0 fu ρ3 _ _ h3 (by funext j; rw [setN_o (by decide) (by decide), m3.1]) (by rw [setN_o (by decide) (by decide), m3.2]) (by omega) (by omega) (by omega)
        exact ⟨v, τ, x1, x2, s, by rw [eY, x3]; exact (iz_n n).symm, by rw [eY]; exact RM_le x4 (by omega)⟩
end SY
