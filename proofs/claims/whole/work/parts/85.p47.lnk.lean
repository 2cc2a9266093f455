/-! ===== PURE: the reference's public methods: link, unlink, rmdir ===== -/
/-- the entry that bears the last name -/
def kf (A : tS) (d : Nat) : Nat := fA A d (A 67) (A 35 53)
def fz (A : tS) (d : Nat) : Int32 := if kf A d < eAll A d then nI (kf A d) else -1
def hdX (A : tS) (w s : Nat) (g : tS → Nat → Int × tS) : Int × tS :=
  if waA A w < 0 then (waA A w, wa1 A w s) else if 28 < lsN A w then (-7, wa1 A w s) else g (wa1 A w s) (waA A w).toNat
/-- what removeEntry asks for -/
def reOk (A : tS) (d k : Nat) : Prop := okS A ∧ nd A d 1 / 256 ≤ 64 ∧ remOk d (nd (putE A d k 64) d 1 / 256) (putE A d k 64)
/-- what lose asks for -/
def loOk (A : tS) (n : Nat) : Prop := 1 ≤ nd A n 2 ∧
  (nd (setN A n 2 (nd A n 2 - 1)) n 2 = 0 → opA (setN A n 2 (nd A n 2 - 1)) n = false → nd (setN A n 2 (nd A n 2 - 1)) n 0 = 1 → 0 < nd (setN A n 2 (nd A n 2 - 1)) n 1 → ddOk n 0 ((nd (setN A n 2 (nd A n 2 - 1)) n 1 - 1) / 256 + 1) (zb (up2 (setN (setN A n 2 (nd A n 2 - 1)) n 1 0) 50 n 1) n 0))
def loA (A : tS) (n : Nat) : tS := mfA (setN A n 2 (nd A n 2 - 1)) n
def ulG (A : tS) (d : Nat) : Int × tS :=
  if eAll A d ≤ kf A d then (-1, A) else if nd A (eN A d (kf A d)) 0 = 2 then (-4, A)
  else ((nd (remA A d (kf A d)) (eN A d (kf A d)) 2 - 1 : Nat), loA (remA A d (kf A d)) (eN A d (kf A d)))
def ulOk (A : tS) (d : Nat) : Prop := kf A d < eAll A d → nd A (eN A d (kf A d)) 0 ≠ 2 → reOk A d (kf A d) ∧ loOk (remA A d (kf A d)) (eN A d (kf A d))
def rdG (A : tS) (d : Nat) : Int × tS :=
  if eAll A d ≤ kf A d then (-1, A) else if nd A (eN A d (kf A d)) 0 ≠ 2 then (-3, A) else if 0 < nd A (eN A d (kf A d)) 1 then (-5, A)
  else ((eN A d (kf A d) : Nat), setN (remA A d (kf A d)) (eN A d (kf A d)) 0 0)
def rdOk (A : tS) (d : Nat) : Prop := kf A d < eAll A d → nd A (eN A d (kf A d)) 0 = 2 → nd A (eN A d (kf A d)) 1 = 0 → reOk A d (kf A d)
section LK
variable {b0 fu : Nat} {σ τ : tM} {A B U : tS} {N N' K K' : Nat} {J : tJ}
theorem nd_bd (h : RA b0 σ A) (n w : Nat) : nd A n w < 2147483648 := bd_36 h _
theorem find_kf (h : RM b0 J σ A N) {d n : Nat} (hD : dirOk A d) (h53 : A 35 53 = n) (hn : n ≤ 120) (hc : ∀ i, i < n → A 67 i < 128) (hu : 10000 ≤ fu) : m_X12_find b0 fu (b0 + 35) (nI d) (b0 + 67) (nI 0) (nI n) σ = some (fz A d, σ) := by
  subst h53
  exact find_eq h.ra h.ok hD (by omega) (nm67 h.ra hn hc) hu
theorem fz_ge (hD : dirOk A (K)) : ((0 : Int32) ≤ fz A K ↔ kf A K < eAll A K) ∧ (kf A K < eAll A K → fz A K = nI (kf A K)) := by
  have ea : eAll A K < 8512 := by have := hD.2.1; unfold eAll; omega
  unfold fz
  by_cases c : kf A K < eAll A K
  · rw [if_pos c]
    exact ⟨⟨fun _ => c, fun _ => Int32.not_lt.mp (nI_pos (by omega))⟩, fun _ => rfl⟩
  · rw [if_neg c]
    exact ⟨⟨fun q => absurd q (by decide), fun q => absurd q c⟩, fun q => absurd q c⟩
theorem head_wp {w : Nat} {K : Int32 → Int32 → tM → Option (Int32 × tM)} {g : tS → Nat → Int × tS} (h : RM b0 J σ A N) (hw : w < 2) (hP : patOk A) (hD : dirsOk A) (hu : 10000 ≤ fu) (hN : N ≤ N')
    (hK : ∀ s (d : Nat) ρ, waA A w = (d : Int) → d < 64 → nd A d 0 = 2 → dirOk (wa1 A w s) d → lsN A w ≤ 28 → RM b0 J ρ (wa1 A w s) N → wp (FR b0) ρ (K (nI d) (fz (wa1 A w s) d) ρ) (fun v τ => ∃ s', v = iz (g (wa1 A w s') d).1 ∧ RM b0 J τ (g (wa1 A w s') d).2 N')) :
    wp (FR b0) σ (cll (m_X12_walkAhead b0 fu (b0 + 35) (nI w) σ) (fun v8 ρ9 => if (0 : Int32) ≤ v8 then ckO b0 ρ9 (b0 + 35) 11 (if tI ρ9 (b0 + 35) 53 ≤ 28 then osm (tA ρ9 (b0 + 35) 52) (fun a15 => cll (m_X12_find b0 fu (b0 + 35) v8 a15 0 (tI ρ9 (b0 + 35) 53) ρ9) (fun v17 ρ18 => K v8 v17 ρ18)) else some (-7, ρ9)) else some (v8, ρ9)))
      (fun v τ => ∃ s', v = iz (hdX A w s' g).1 ∧ RM b0 J τ (hdX A w s' g).2 N') := by
  obtain ⟨a1, a2, a3⟩ := wa_bd (w := w) h.ok
  refine wp_bind (FR_good b0) (walkAhead_wp (fu := fu) (w := w) h hw hP hD hu) ?_
  intro v ρ ⟨e1, s, h1⟩
  subst e1
  have h1 : RM b0 J ρ (wa1 A w s) N := h1
  have L1 := h1.ra.lay
  have ge := iz_ge a1 a2
  have e36 := wa1_36 (w := w) (s := s) A
  have e53 := wa1_53 (w := w) (s := s) A
  have ll := ls_le A w
  have l120 := (hP w hw).1
  have hc : ∀ i, i < lsN A w → wa1 A w s 67 i < 128 := fun i hi => wa1_128 hP hw hi
  obtain ⟨o1, o2, o3, o4, o5, o6, o7, o8⟩ := on36 e36
  by_cases c : waA A w < 0
  · rw [if_neg (fun q => by have := ge.mp q; omega)]
    have eY : hdX A w s g = (waA A w, wa1 A w s) := if_pos c
    exact wp_ret ((FR_good b0).1 _) ⟨s, by rw [eY], by rw [eY]; exact RM_le h1 hN⟩
  · rw [if_pos (ge.mpr (by omega))]
    have a3 := a3 (by omega)
    obtain ⟨d, hd⟩ : ∃ d : Nat, waA A w = (d : Int) := ⟨(waA A w).toNat, by omega⟩
    rw [hd, Int.toNat_natCast] at a3
    rw [hd, iz_n]
    have d64 : d < 64 := by omega
    have hDd : dirOk (wa1 A w s) d := by
      have := hD d d64 a3
      unfold dirOk at this ⊢
      rw [o1, o4]
      exact this
    rw [ckR_35 L1, rf_53 h1.ra, e53, show (28 : Int32) = nI 28 from rfl, if_l (by omega) (by omega)]
    by_cases c2 : 28 < lsN A w
    · rw [if_neg (by omega)]
      have eY : hdX A w s g = (-7, wa1 A w s) := by unfold hdX; rw [if_neg c, if_pos c2]
      exact wp_ret ((FR_good b0).1 _) ⟨s, by rw [eY]; rfl, by rw [eY]; exact RM_le h1 hN⟩
    · rw [if_pos (by omega), osm_p (rfR_35_52 L1)]
      show wp (FR b0) ρ (cll (m_X12_find b0 fu (b0 + 35) (nI d) (b0 + 67) (nI 0) (nI (lsN A w)) ρ) _) _
      rw [find_kf h1 hDd e53 (by omega) hc hu, cll_some]
      obtain ⟨v, τ, x1, x2, s', x3, x4⟩ := hK s d ρ hd d64 a3 hDd (by omega) h1
      have eY : hdX A w s' g = g (wa1 A w s') d := by unfold hdX; rw [if_neg c, if_neg c2, hd, Int.toNat_natCast]
      exact ⟨v, τ, x1, x2, s', by rw [eY]; exact x3, by rw [eY]; exact x4⟩
theorem reOk_wp {d k : Nat} (h : RM b0 J σ A N) (hN : N + 1100 < 65536) (hD : dirOk A d) (hk : k < eAll A d) (ho : reOk A d k) (hu : 10000 ≤ fu) : wp (FR b0) σ (m_X12_removeEntry b0 fu (b0 + 35) (nI d) (nI k) σ) (fun _ τ => RM b0 J τ (remA A d k) (N + 65)) := by
  obtain ⟨o1, o2, o3⟩ := ho
  obtain ⟨d1, d2, d3⟩ := hD
  have k8 : k / 8 < nd A d 1 / 256 := by unfold eAll at hk; omega
  obtain ⟨v, τ, x1, x2, x3⟩ := removeEntry_wp (fu := fu) h hN o1 d1 (by omega) (d3 _ k8) d2 o3 hu
  exact ⟨v, τ, x1, x2, RM_le x3 (by omega)⟩
theorem ul_k {d : Nat} (h : RM b0 J σ A N) (hN : N + 1200 < 65536) (hD : dirOk A d) (ho : ulOk A d) (hu : 10000 ≤ fu) :
    wp (FR b0) σ (if (0 : Int32) ≤ fz A d then ckO b0 σ (b0 + 35) 11 (cll (m_X12_entryNode b0 fu (b0 + 35) (nI d) (fz A d) σ) (fun v23 ρ24 => ckO b0 ρ24 (b0 + 35) 11 (cll (m_X12_node b0 fu (b0 + 35) v23 0 ρ24) (fun v28 ρ29 => if v28 = 2 then some (-4, ρ29) else ckO b0 ρ29 (b0 + 35) 11 (cll (m_X12_removeEntry b0 fu (b0 + 35) (nI d) (fz A d) ρ29) (fun _ ρ35 => ckO b0 ρ35 (b0 + 35) 11 (cll (m_X12_lose b0 fu (b0 + 35) v23 ρ35) (fun v39 ρ40 => some (v39, ρ40))))))))) else some (-1, σ)) (fun v τ => v = iz (ulG A d).1 ∧ RM b0 J τ (ulG A d).2 (N + 68)) := by
  have L := h.ra.lay
  obtain ⟨z1, z2⟩ := fz_ge hD
  by_cases c : kf A d < eAll A d
  · rw [if_pos (z1.mpr c), z2 c, ckR_35 L]
    have k8 : kf A d / 8 < nd A d 1 / 256 := by unfold eAll at c; omega
    have n64 : eN A d (kf A d) < 64 := eN_f h.ok (show ¬ eAll A d ≤ fA A d (A 67) (A 35 53) from Nat.not_le.mpr c)
    rw [entryNode_eq h.ra h.ok hD.1 (by have := hD.2.1; omega) (hD.2.2 _ k8), cll_some, ckR_35 L]
    show wp (FR b0) σ (cll (m_X12_node b0 fu (b0 + 35) (nI (eN A d (kf A d))) (nI 0) σ) (fun v28 ρ29 => if v28 = nI 2 then _ else _)) _
    rw [node_nd h.ra n64 (by omega), cll_some, if_e (nd_bd h.ra _ _) (by omega)]
    unfold ulG
    rw [if_neg (show ¬ eAll A d ≤ kf A d by omega)]
    have ho := ho c
    generalize eN A d (kf A d) = n at *
    by_cases c2 : nd A n 0 = 2
    · rw [if_pos c2, if_pos c2]
      exact wp_ret ((FR_good b0).1 _) ⟨rfl, RM_le h (by omega)⟩
    · obtain ⟨o1, o2⟩ := ho c2
      rw [if_neg c2, if_neg c2, ckR_35 L]
      refine wp_bind (FR_good b0) (reOk_wp (fu := fu) h (by omega) hD c o1 hu) ?_
      intro _ ρ h2
      rw [ckR_35 h2.ra.lay]
      refine wp_bind (FR_good b0) (lose_wp (fu := fu) h2 (by omega) (by omega) n64 o2.1 o2.2) ?_
      intro v ρ2 ⟨e1, h3⟩
      exact wp_ret ((FR_good b0).1 _) ⟨by rw [e1]; exact (iz_n _).symm, h3⟩
  · rw [if_neg (fun q => c (z1.mp q))]
    unfold ulG
    rw [if_pos (show eAll A d ≤ kf A d by omega)]
    exact wp_ret ((FR_good b0).1 _) ⟨rfl, RM_le h (by omega)⟩
theorem unlink_wp (h : RM b0 J σ A N) (hN : N + 1200 < 65536) (hl : A 35 6 ≤ 4096) (ho : uaOk (up2 A 35 0 0) J) (hu : 1200000 ≤ fu) (hb : ∀ un p, un ≤ N → uaX (up2 A 35 0 0) J un = .inl p → bdOk p.1 ∧ ∀ s (d : Nat), waA p.1 0 = (d : Int) → ulOk (wa1 p.1 0 s) d) :
    wp (FR b0) σ (m_X12_unlink b0 fu (b0 + 35) σ) (PQ b0 N (N + 68) A J (fun A s => hdX A 0 s ulG)) := by
  refine wp_grw (FR_good b0) (pub2_wp h hl ho hu (by omega) (fun un p ρ hun e q => ?_))
  obtain ⟨b1, b2⟩ := hb un p hun e
  refine head_wp (w := 0) q (by omega) b1.1 b1.2.1 (by omega) (by omega) ?_
  intro s d ρ2 e1 e2 e3 e4 e5 h2
  obtain ⟨v, τ, x1, x2, x3, x4⟩ := ul_k (fu := fu) h2 hN e4 (b2 s d e1) (by omega)
  exact ⟨v, τ, x1, x2, s, x3, x4⟩
theorem rd_k {d : Nat} (h : RM b0 J σ A N) (hN : N + 1200 < 65536) (hD : dirOk A d) (ho : rdOk A d) (hu : 10000 ≤ fu) :
    wp (FR b0) σ (if (0 : Int32) ≤ fz A d then ckO b0 σ (b0 + 35) 11 (cll (m_X12_entryNode b0 fu (b0 + 35) (nI d) (fz A d) σ) (fun v23 ρ24 => ckO b0 ρ24 (b0 + 35) 11 (cll (m_X12_node b0 fu (b0 + 35) v23 0 ρ24) (fun v28 ρ29 => if v28 = 2 then ckO b0 ρ29 (b0 + 35) 11 (cll (m_X12_node b0 fu (b0 + 35) v23 1 ρ29) (fun v34 ρ35 => if v34 ≤ 0 then ckO b0 ρ35 (b0 + 35) 11 (cll (m_X12_removeEntry b0 fu (b0 + 35) (nI d) (fz A d) ρ35) (fun _ ρ41 => ckO b0 ρ41 (b0 + 35) 11 (cll (m_X12_putNode b0 fu (b0 + 35) v23 0 0 ρ41) (fun _ ρ46 => some (v23, ρ46))))) else some (-5, ρ35))) else some (-3, ρ29))))) else some (-1, σ)) (fun v τ => v = iz (rdG A d).1 ∧ RM b0 J τ (rdG A d).2 (N + 68)) := by
  have L := h.ra.lay
  obtain ⟨z1, z2⟩ := fz_ge hD
  by_cases c : kf A d < eAll A d
  · rw [if_pos (z1.mpr c), z2 c, ckR_35 L]
    have k8 : kf A d / 8 < nd A d 1 / 256 := by unfold eAll at c; omega
    have n64 : eN A d (kf A d) < 64 := eN_f h.ok (show ¬ eAll A d ≤ fA A d (A 67) (A 35 53) from Nat.not_le.mpr c)
    rw [entryNode_eq h.ra h.ok hD.1 (by have := hD.2.1; omega) (hD.2.2 _ k8), cll_some, ckR_35 L]
    show wp (FR b0) σ (cll (m_X12_node b0 fu (b0 + 35) (nI (eN A d (kf A d))) (nI 0) σ) (fun v28 ρ29 => if v28 = nI 2 then _ else _)) _
    rw [node_nd h.ra n64 (by omega), cll_some, if_e (nd_bd h.ra _ _) (by omega)]
    unfold rdG
    rw [if_neg (show ¬ eAll A d ≤ kf A d by omega)]
    have ho := ho c
    generalize eN A d (kf A d) = n at *
    by_cases c2 : nd A n 0 = 2
    · rw [if_pos c2, if_neg (fun q => q c2), ckR_35 L]
      show wp (FR b0) σ (cll (m_X12_node b0 fu (b0 + 35) (nI n) (nI 1) σ) (fun v28 ρ29 => if v28 ≤ nI 0 then _ else _)) _
      rw [node_nd h.ra n64 (by omega), cll_some, if_l (nd_bd h.ra _ _) (by omega)]
      by_cases c3 : 0 < nd A n 1
      · rw [if_neg (show ¬ nd A n 1 ≤ 0 by omega), if_pos c3]
        exact wp_ret ((FR_good b0).1 _) ⟨rfl, RM_le h (by omega)⟩
      · rw [if_pos (show nd A n 1 ≤ 0 by omega), if_neg c3, ckR_35 L]
        refine wp_bind (FR_good b0) (reOk_wp (fu := fu) h (by omega) hD c (ho c2 (by omega)) hu) ?_
        intro _ ρ h2
        rw [ckR_35 h2.ra.lay]
        refine wp_bind (FR_good b0) (putNode_wp (fu := fu) (w := 0) (v := 0) h2 (by omega) n64 (by omega) (show 0 < 4 by omega)) ?_
        intro v ρ2 h3
        exact wp_ret ((FR_good b0).1 _) ⟨(iz_n _).symm, RM_le h3 (by omega)⟩
    · rw [if_neg c2, if_pos c2]
      exact wp_ret ((FR_good b0).1 _) ⟨rfl, RM_le h (by omega)⟩
  · rw [if_neg (fun q => c (z1.mp q))]
    unfold rdG
    rw [if_pos (show eAll A d ≤ kf A d by omega)]
    exact wp_ret ((FR_good b0).1 _) ⟨rfl, RM_le h (by omega)⟩
theorem rmdir_wp (h : RM b0 J σ A N) (hN : N + 1200 < 65536) (hl : A 35 6 ≤ 4096) (ho : uaOk (up2 A 35 0 0) J) (hu : 1200000 ≤ fu) (hb : ∀ un p, un ≤ N → uaX (up2 A 35 0 0) J un = .inl p → bdOk p.1 ∧ ∀ s (d : Nat), waA p.1 0 = (d : Int) → rdOk (wa1 p.1 0 s) d) :
    wp (FR b0) σ (m_X12_rmdir b0 fu (b0 + 35) σ) (PQ b0 N (N + 68) A J (fun A s => hdX A 0 s rdG)) := by
  refine wp_grw (FR_good b0) (pub2_wp h hl ho hu (by omega) (fun un p ρ hun e q => ?_))
  obtain ⟨b1, b2⟩ := hb un p hun e
  refine head_wp (w := 0) q (by omega) b1.1 b1.2.1 (by omega) (by omega) ?_
  intro s d ρ2 e1 e2 e3 e4 e5 h2
  obtain ⟨v, τ, x1, x2, x3, x4⟩ := rd_k (fu := fu) h2 hN e4 (b2 s d e1) (by omega)
  exact ⟨v, τ, x1, x2, s, x3, x4⟩
end LK
