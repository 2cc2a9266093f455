/-! ===== PURE: the class's PathText; path ===== -/
/-- the text of a path as it is taken -/
def tkX (C : tS) (o n : Nat) : Nat → Nat := fun j => if j < n then C 27 j else C o j
def tkC (C : tS) (p n : Nat) : tS := up2 (up2 (up2 (upR C (p + 1) (tkX C (p + 1) n)) p 1 n) p 2 (laF (tkX C (p + 1) n) (laE (tkX C (p + 1) n) n))) p 3 (laE (tkX C (p + 1) n) n - laF (tkX C (p + 1) n) (laE (tkX C (p + 1) n) n))
set_option maxRecDepth 10000 in
theorem sb_47 {x : Nat} (h : x < 256) : (sb x = 47 ↔ x = 47) ∧ (sb x = 46 ↔ x = 46) := by
  have : ∀ y : Fin 256, (sb y.val = 47 ↔ y.val = 47) ∧ (sb y.val = 46 ↔ y.val = 46) := by decide
  exact this ⟨x, h⟩
section PT
theorem vb_sb (x : Nat) : vp_nar .byte (sb x) = sb x := by
  unfold sb
  exact pk_vb _
theorem up2_ie {A : tS} {o j x : Nat} (h : A o j = x) : up2 A o j x = A := by rw [← h]; exact up2_id A o j
theorem up2_2 {A : tS} {o j x y : Nat} : up2 (up2 A o j x) o j y = up2 A o j y := by
  funext p q
  unfold up2
  by_cases c : p = o
  · by_cases d : q = j
    · simp [c, d]
    · simp [c, d]
  · simp [c]
theorem upR_s {A : tS} {o q : Nat} {X : Nat → Nat} : upR A o X o q = X q := by simp [upR]
variable {b0 fu : Nat} {σ τ : tM} {C A : tS} {D : tD}
theorem canBe_c {y : Int32} (h : CA b0 σ C) (h4 : C 26 1 ≤ 4000) (hu : 300 ≤ fu) : m_X6_canBePath b0 fu (b0 + 26) y σ = some (nI (if y < 0 ∨ (120 : Int32) < y ∨ C 26 1 < y.toNatClampNeg ∨ sr (fun k => !(decide (33 ≤ C 27 k) && decide (C 27 k ≤ 126))) 0 y.toNatClampNeg < y.toNatClampNeg then 0 else 1), σ) := by
  have L := h.lay
  unfold m_X6_canBePath J_X6_canBePath_18
  by_cases c0 : y < 0
  · rw [if_pos c0, if_pos (Or.inl c0)]
    exact grw_same
  by_cases c1 : (120 : Int32) < y
  · rw [if_neg c0, if_pos c1, if_pos (Or.inr (Or.inl c1))]
    exact grw_same
  obtain ⟨n, hn2, rfl⟩ := nI_of c0
  have hn : n ≤ 120 := by
    have : ¬ 120 < n := fun r => c1 ((nI_ltP (a := 120) (b := n) (by omega) hn2).mpr r)
    omega
  rw [if_neg c0, if_neg c1, ckC_26 L, cf_26_1 h, if_l (by omega) (by omega), nI_cl (by omega)]
  by_cases c2 : n ≤ C 26 1
  · rw [if_pos c2]
    have lp : ∀ m k f, k + m = n → m < f → L_X6_canBePath_22 b0 fu f (b0 + 26) (nI n) (nI k) σ = some (nI (if sr (fun k => !(decide (33 ≤ C 27 k) && decide (C 27 k ≤ 126))) k m < n then 0 else 1), σ) := by
      intro m
      induction m with
      | zero =>
        intro k f hk hf
        obtain ⟨f, rfl⟩ : ∃ q, f = q + 1 := ⟨f - 1, by omega⟩
        unfold L_X6_canBePath_22
        rw [ltb_def, if_l (by omega) (by omega), if_pos (by omega)]
        show _ = some (nI (if k < n then 0 else 1), σ)
        rw [if_neg (by omega)]
        rfl
      | succ m ih =>
        intro k f hk hf
        obtain ⟨f, rfl⟩ : ∃ q, f = q + 1 := ⟨f - 1, by omega⟩
        obtain ⟨s1, s2⟩ := sb_pr (cb_27 h k)
        unfold L_X6_canBePath_22 J_X6_canBePath_49
        rw [ltb_def, if_l (by omega) (by omega), if_neg (by omega), ckC_26 L, osm_p (rfC_26_0 L), ckC_27 L, ckI_n (by omega) (by omega), nI_cl (by omega), cd_27 h, osm_p (rfC_26_0 L), ckC_27 L, ckI_n (by omega) (by omega), cd_27 h, ltb_def, ofi]
        show _ = some (nI (if (if (!(decide (33 ≤ C 27 k) && decide (C 27 k ≤ 126))) = true then k else sr (fun k => !(decide (33 ≤ C 27 k) && decide (C 27 k ≤ 126))) (k + 1) m) < n then 0 else 1), σ)
        by_cases c : 33 ≤ C 27 k ∧ C 27 k ≤ 126
        · have ep : (!(decide (33 ≤ C 27 k) && decide (C 27 k ≤ 126))) = false := by simp [c.1, c.2]
          rw [ep, if_neg (fun r => s1.mp r ⟨c.1, by omega⟩), if_pos ((s2 c.1 (by omega)).mpr c.2), if_neg (show ¬ false = true by decide)]
          exact ih (k + 1) f (by omega) (by omega)
        · have ep : (!(decide (33 ≤ C 27 k) && decide (C 27 k ≤ 126))) = true := by
            by_cases q : 33 ≤ C 27 k
            · have : ¬ C 27 k ≤ 126 := fun r => c ⟨q, r⟩
              simp [this]
            · simp [q]
          rw [ep, if_pos (show true = true from rfl), if_pos (show k < n by omega)]
          by_cases q : sb (C 27 k) < 33
          · rw [if_pos q]
            rfl
          · rw [if_neg q]
            have q2 : 33 ≤ C 27 k ∧ C 27 k < 128 := Classical.byContradiction (fun r => q (s1.mpr r))
            rw [if_neg (fun r => c ⟨q2.1, (s2 q2.1 q2.2).mp r⟩)]
            rfl
    have z := lp n 0 fu (by omega) (by omega)
    show grw σ (L_X6_canBePath_22 b0 fu fu (b0 + 26) (nI n) (nI 0) σ) = _
    rw [z]
    by_cases q : sr (fun k => !(decide (33 ≤ C 27 k) && decide (C 27 k ≤ 126))) 0 n < n
    · rw [if_pos q, if_pos (Or.inr (Or.inr (Or.inr q)))]
      exact grw_same
    · rw [if_neg q, if_neg (fun r => by rcases r with r | r | r | r <;> first | exact c0 r | exact c1 r | omega | exact q r)]
      exact grw_same
  · rw [if_neg c2, if_pos (Or.inr (Or.inr (Or.inl (by omega))))]
    exact grw_same
theorem pO {p : Nat} (hp : p = 28 ∨ p = 30) (L : LayC b0 σ) : tk σ (b0 + p) = .inl 3 ∧ tA σ (b0 + p) 0 = some (b0 + (p + 1)) ∧ tk σ (b0 + (p + 1)) = .inr (1, 120) := by
  rcases hp with rfl | rfl
  · exact ⟨rkC28 L, rfC_28_0 L, rkC29 L⟩
  · exact ⟨rkC30 L, rfC_30_0 L, rkC31 L⟩
theorem pF {p : Nat} (hp : p = 28 ∨ p = 30) (h : CA b0 σ C) : tI σ (b0 + p) 1 = nI (C p 1) ∧ tI σ (b0 + p) 2 = nI (C p 2) ∧ tI σ (b0 + p) 3 = nI (C p 3) ∧ (∀ j, tI σ (b0 + (p + 1)) j = sb (C (p + 1) j)) ∧ ∀ j, C (p + 1) j < 256 := by
  rcases hp with rfl | rfl
  · exact ⟨cf_28_1 h, cf_28_2 h, cf_28_3 h, cd_29 h, cb_29 h⟩
  · exact ⟨cf_30_1 h, cf_30_2 h, cf_30_3 h, cd_31 h, cb_31 h⟩
theorem pU {p j x : Nat} (hp : p = 28 ∨ p = 30) (hj : j = 1 ∨ j = 2 ∨ j = 3) (hx : x < 2147483648) (h : CM b0 σ C D) : CM b0 (sI σ (b0 + p) j (nI x)) (up2 C p j x) D := by
  rcases hp with rfl | rfl <;> rcases hj with rfl | rfl | rfl <;> exact CM_fix h rfl rfl hx
theorem pB {p j x : Nat} (hp : p = 28 ∨ p = 30) (hx : x < 256) (h : CM b0 σ C D) : CM b0 (sI σ (b0 + (p + 1)) j (sb x)) (up2 C (p + 1) j x) D := by
  rcases hp with rfl | rfl <;> exact CM_fix h rfl rfl hx
theorem tk74 {p n : Nat} (hp : p = 28 ∨ p = 30) (hn : n ≤ 120) : ∀ e f σ C, CM b0 σ C D → C p 2 = e → e ≤ n → e < f → wp (FC b0) σ (L_X3_take_74 b0 fu f (b0 + p) (nI n) σ) (fun _ τ => CM b0 τ (up2 (up2 C p 2 (laF (C (p + 1)) e)) p 3 (n - laF (C (p + 1)) e)) D) := by
  intro e
  induction e with
  | zero =>
    intro f σ C h he hen hf
    obtain ⟨f, rfl⟩ : ∃ q, f = q + 1 := ⟨f - 1, by omega⟩
    have L := h.lay
    obtain ⟨o1, o2, o3⟩ := pO hp L
    obtain ⟨f1, f2, f3, f4, f5⟩ := pF hp h.ca
    have hb := L.1
    unfold L_X3_take_74 J_X3_take_110
    rw [ltb_def, ckO_p o1 ⟨by omega, by omega⟩, f2, he, if_pos (show nI 0 ≤ 0 by decide), ckO_p o1 ⟨by omega, by omega⟩]
    show wp (FC b0) σ (some ((), sI σ (b0 + p) 3 (nI n - nI 0))) (fun _ τ => CM b0 τ (up2 (up2 C p 2 0) p 3 (n - 0)) D)
    rw [nI_sb (Nat.zero_le _), up2_ie he]
    exact wp_ret (FC_sI h.rf (by omega)) (pU hp (by omega) (by omega) h)
  | succ e ih =>
    intro f σ C h he hen hf
    obtain ⟨f, rfl⟩ : ∃ q, f = q + 1 := ⟨f - 1, by omega⟩
    have L := h.lay
    obtain ⟨o1, o2, o3⟩ := pO hp L
    obtain ⟨f1, f2, f3, f4, f5⟩ := pF hp h.ca
    have hb := L.1
    unfold L_X3_take_74 J_X3_take_110
    rw [ltb_def, ckO_p o1 ⟨by omega, by omega⟩, f2, he]
    rw [if_neg (show ¬ nI (e + 1) ≤ 0 from fun r => by have := (nI_leP (a := e + 1) (b := 0) (by omega) (by omega)).mp r; omega), osm_p o2, ckR_p o3 ⟨by omega, by omega⟩, show nI (e + 1) - 1 = nI e from nI_sb (a := e + 1) (b := 1) (by omega), ckI_n (by omega) (by omega), nI_cl (by omega), f4]
    have e1 : laF (C (p + 1)) (e + 1) = if C (p + 1) e = 47 then e + 1 else laF (C (p + 1)) e := rfl
    rw [e1]
    by_cases c : C (p + 1) e = 47
    · rw [if_pos ((sb_47 (f5 e)).1.mpr c), if_pos c, ckO_p o1 ⟨by omega, by omega⟩, nI_sb hen, up2_ie he]
      exact wp_ret (FC_sI h.rf (by omega)) (pU hp (by omega) (by omega) h)
    · rw [if_neg (fun r => c ((sb_47 (f5 e)).1.mp r)), if_neg c]
      refine wp_from (FC_good b0) (FC_sI (v := nI e) (o := p) (j := 2) h.rf (by omega)) (wp_mono (ih f _ (up2 C p 2 e) (pU hp (by omega) (by omega) h) (up2_s _ _ _ _) (by omega) (by omega)) ?_)
      intro _ ρ _ q
      rw [up2_rown (show p + 1 ≠ p by omega), up2_2] at q
      exact q
theorem tk46 {p n : Nat} (hp : p = 28 ∨ p = 30) (hn : n ≤ 120) (h : CM b0 σ C D) (hu : 300 ≤ fu) : ∀ m f, m ≤ n → m < f → wp (FC b0) σ (L_X3_take_46 b0 fu f (b0 + p) (nI m) σ) (fun _ τ => CM b0 τ (up2 (up2 C p 2 (laF (C (p + 1)) (laE (C (p + 1)) m))) p 3 (laE (C (p + 1)) m - laF (C (p + 1)) (laE (C (p + 1)) m))) D) := by
  have L := h.lay
  obtain ⟨o1, o2, o3⟩ := pO hp L
  obtain ⟨f1, f2, f3, f4, f5⟩ := pF hp h.ca
  have hb := L.1
  have fin : ∀ m, m ≤ n → wp (FC b0) σ (J_X3_take_69 b0 fu (b0 + p) (nI m) σ) (fun _ τ => CM b0 τ (up2 (up2 C p 2 (laF (C (p + 1)) m)) p 3 (m - laF (C (p + 1)) m)) D) := by
    intro m hm
    unfold J_X3_take_69
    rw [ckO_p o1 ⟨by omega, by omega⟩]
    refine wp_from (FC_good b0) (FC_sI (v := nI m) (o := p) (j := 2) h.rf (by omega)) (wp_mono (tk74 hp (show m ≤ 120 by omega) m fu _ (up2 C p 2 m) (pU hp (by omega) (by omega) h) (up2_s _ _ _ _) (Nat.le_refl _) (by omega)) ?_)
    intro _ ρ _ q
    rw [up2_rown (show p + 1 ≠ p by omega), up2_2] at q
    exact q
  intro m
  induction m with
  | zero =>
    intro f hm hf
    obtain ⟨f, rfl⟩ : ∃ q, f = q + 1 := ⟨f - 1, by omega⟩
    unfold L_X3_take_46
    rw [ltb_def, if_pos (show nI 0 ≤ 0 by decide)]
    exact fin 0 (Nat.zero_le _)
  | succ m ih =>
    intro f hm hf
    obtain ⟨f, rfl⟩ : ∃ q, f = q + 1 := ⟨f - 1, by omega⟩
    unfold L_X3_take_46
    rw [ltb_def]
    rw [if_neg (show ¬ nI (m + 1) ≤ 0 from fun r => by have := (nI_leP (a := m + 1) (b := 0) (by omega) (by omega)).mp r; omega), ckO_p o1 ⟨by omega, by omega⟩, osm_p o2, ckR_p o3 ⟨by omega, by omega⟩, show nI (m + 1) - 1 = nI m from nI_sb (a := m + 1) (b := 1) (by omega), ckI_n (by omega) (by omega), nI_cl (by omega), f4, ltb_def, show nI (m + 1) + Int32.ofInt (-1) = nI m from pk_m1 m]
    have e1 : laE (C (p + 1)) (m + 1) = if C (p + 1) m = 47 then laE (C (p + 1)) m else m + 1 := rfl
    rw [e1]
    by_cases c : C (p + 1) m = 47
    · rw [if_pos ((sb_47 (f5 m)).1.mpr c), if_pos c]
      exact ih f (by omega) (by omega)
    · rw [if_neg (fun r => c ((sb_47 (f5 m)).1.mp r)), if_neg c]
      exact fin (m + 1) hm
theorem tk16 {p n : Nat} (hp : p = 28 ∨ p = 30) (hn : n ≤ 120) (hu : 300 ≤ fu) : ∀ m k f σ C, CM b0 σ C D → C p 1 = n → k + m = n → m < f → wp (FC b0) σ (L_X3_take_16 b0 fu f (b0 + p) (b0 + 26) (nI k) σ) (fun _ τ => ∃ C0, (∀ o j, C0 o j = if o = p + 1 ∧ k ≤ j ∧ j < n then C 27 j else C o j) ∧ CM b0 τ (up2 (up2 C0 p 2 (laF (C0 (p + 1)) (laE (C0 (p + 1)) n))) p 3 (laE (C0 (p + 1)) n - laF (C0 (p + 1)) (laE (C0 (p + 1)) n))) D) := by
  intro m
  induction m with
  | zero =>
    intro k f σ C h he hk hf
    obtain ⟨f, rfl⟩ : ∃ q, f = q + 1 := ⟨f - 1, by omega⟩
    have L := h.lay
    obtain ⟨o1, o2, o3⟩ := pO hp L
    obtain ⟨f1, f2, f3, f4, f5⟩ := pF hp h.ca
    have hb := L.1
    unfold L_X3_take_16
    rw [ltb_def, ckO_p o1 ⟨by omega, by omega⟩, f1, he, if_l (by omega) (by omega), if_pos (by omega), ltb_def]
    refine wp_mono (tk46 hp hn h hu n fu (Nat.le_refl _) (by omega)) ?_
    intro _ ρ _ q
    exact ⟨C, fun o j => by rw [if_neg (by omega)], q⟩
  | succ m ih =>
    intro k f σ C h he hk hf
    obtain ⟨f, rfl⟩ : ∃ q, f = q + 1 := ⟨f - 1, by omega⟩
    have L := h.lay
    obtain ⟨o1, o2, o3⟩ := pO hp L
    obtain ⟨f1, f2, f3, f4, f5⟩ := pF hp h.ca
    have hb := L.1
    have b27 := cb_27 h.ca k
    unfold L_X3_take_16
    rw [ltb_def, ckO_p o1 ⟨by omega, by omega⟩, f1, he, if_l (by omega) (by omega), if_neg (by omega), osm_p o2, ckC_26 L, octet6_c h.ca (by omega), cll_some, ckR_p o3 ⟨by omega, by omega⟩, ckI_n (by omega) (by omega), ltb_def, ofi, nI_cl (by omega), vb_sb]
    refine wp_from (FC_good b0) (FC_sI (v := sb (C 27 k)) (o := p + 1) (j := k) h.rf (by omega)) (wp_mono (ih (k + 1) f _ (up2 C (p + 1) k (C 27 k)) (pB hp b27 h) (by rw [up2_o (by omega)]; exact he) (by omega) (by omega)) ?_)
    intro _ ρ _ ⟨C0, q1, q2⟩
    refine ⟨C0, fun o j => ?_, q2⟩
    rw [q1]
    by_cases c : o = p + 1
    · subst c
      by_cases c2 : j = k
      · subst c2
        rw [if_neg (by omega), if_pos (by omega), up2_s]
      · by_cases c3 : k + 1 ≤ j ∧ j < n
        · rw [if_pos (by omega), if_pos (by omega), up2_o (by omega)]
        · rw [if_neg (by omega), if_neg (by omega), up2_j c2]
    · rw [if_neg (fun r => c r.1), if_neg (fun r => c r.1), up2_o c]
theorem take_c {p n : Nat} (hp : p = 28 ∨ p = 30) (hn : n ≤ 120) (h : CM b0 σ C D) (hu : 300 ≤ fu) : wp (FC b0) σ (m_X3_take b0 fu (b0 + p) (b0 + 26) (nI n) σ) (fun _ τ => CM b0 τ (tkC C p n) D) := by
  have L := h.lay
  obtain ⟨o1, o2, o3⟩ := pO hp L
  have hb := L.1
  refine wp_grw (FC_good b0) ?_
  rw [ckO_p o1 ⟨by omega, by omega⟩]
  have e0 : ((if (0 : Int32) < (if (120 : Int32) < nI n then 120 else nI n) then (if (120 : Int32) < nI n then 120 else nI n) else 0) : Int32) = nI n := by
    have a1 : ¬ (120 : Int32) < nI n := by
      show ¬ nI 120 < nI n
      rw [nI_ltP (by omega) (by omega)]
      omega
    rw [if_neg a1]
    by_cases c : (0 : Int32) < nI n
    · rw [if_pos c]
    · rw [if_neg c]
      have : ¬ nI 0 < nI n := c
      rw [nI_ltP (by omega) (by omega)] at this
      rw [show n = 0 by omega]
      rfl
  rw [e0]
  refine wp_from (FC_good b0) (FC_sI (v := nI n) (o := p) (j := 1) h.rf (by omega)) (wp_mono (tk16 hp hn hu n 0 fu _ (up2 C p 1 n) (pU hp (by omega) (by omega) h) (up2_s _ _ _ _) (by omega) (by omega)) ?_)
  intro _ ρ _ ⟨C0, q1, q2⟩
  have e1 : C0 (p + 1) = tkX C (p + 1) n := by
    funext j
    rw [q1]
    unfold tkX
    by_cases c : j < n
    · rw [if_pos (by omega), if_pos c, up2_o (by omega)]
    · rw [if_neg (by omega), if_neg c, up2_o (by omega)]
  have e2 : C0 = up2 (upR C (p + 1) (tkX C (p + 1) n)) p 1 n := by
    funext o j
    by_cases c : o = p + 1
    · subst c
      rw [e1, up2_o (by omega), upR_s]
    · rw [q1, if_neg (fun r => c r.1)]
      by_cases c2 : o = p ∧ j = 1
      · obtain ⟨rfl, rfl⟩ := c2
        rw [up2_s, up2_s]
      · by_cases c3 : o = p
        · subst c3
          rw [up2_j (fun r => c2 ⟨rfl, r⟩), up2_j (fun r => c2 ⟨rfl, r⟩), upR_o c]
        · rw [up2_o c3, up2_o c3, upR_o c]
  rw [e1, e2] at q2
  exact q2
theorem useUp_c (h : CM b0 σ C D) : wp (FC b0) σ (m_X6_useUp b0 fu (b0 + 26) σ) (fun _ τ => CM b0 τ (up2 C 26 1 0) D) := by
  refine wp_grw (FC_good b0) ?_
  rw [ckC_26 h.lay]
  exact wp_ret (FC_sI h.rf (by omega)) (CM_fix (o := 26) (j := 1) (x := 0) h rfl rfl (by decide))
theorem lsF_tk {C A B : tS} {w n : Nat} (hw : w < 2) (h1 : ∀ j, C 27 j = A 70 j) (h2 : ∀ j, C (28 + 2 * w + 1) j = A (62 + w) j) (h3 : ∀ j, B (62 + w) j = if j < n then A 70 j else A (62 + w) j) (h4 : B 64 w = n) : tkC C (28 + 2 * w) n (28 + 2 * w) 1 = n ∧ tkC C (28 + 2 * w) n (28 + 2 * w) 2 = lsF B w ∧ tkC C (28 + 2 * w) n (28 + 2 * w) 3 = lsN B w ∧ ∀ j, tkC C (28 + 2 * w) n (28 + 2 * w + 1) j = B (62 + w) j := by
  have e : tkX C (28 + 2 * w + 1) n = B (62 + w) := by
    funext j
    unfold tkX
    rw [h3, h1, h2]
  unfold tkC lsF lsN
  rw [e, h4]
  refine ⟨?_, ?_, ?_, fun j => ?_⟩
  · rw [up2_j (by decide), up2_j (by decide), up2_s]
  · rw [up2_j (by decide), up2_s]
  · rw [up2_s]
  · rw [up2_o (by omega), up2_o (by omega), up2_o (by omega), upR_s]
theorem tk_o {C : tS} {p n q : Nat} (h1 : q ≠ p) (h2 : q ≠ p + 1) : tkC C p n q = C q := by
  funext j
  unfold tkC
  rw [up2_o h1, up2_o h1, up2_o h1, upR_o h2]
theorem path_c {x y : Int32} (h : CM b0 σ C D) (hT : TP C A) (h4 : A 35 57 ≤ 4000) (hu : 300 ≤ fu) : wp (FC b0) σ (m_X10_path b0 fu (b0 + 0) x y σ) (fun v τ => v = iz (ptA x y A).1 ∧ ∃ C', CM b0 τ C' D ∧ TP C' (ptA x y A).2 ∧ ∀ p, p ≠ 26 → p ≠ 28 → p ≠ 29 → p ≠ 30 → p ≠ 31 → C' p = C p) := by
  have L := h.lay
  have hT0 := hT
  obtain ⟨t1, t2, t3, t4⟩ := hT
  refine wp_grw (FC_good b0) ?_
  have pe : (fun k => !(decide (33 ≤ C 27 k) && decide (C 27 k ≤ 126))) = fun k => !prN A k := by
    funext k
    unfold prN
    rw [t2]
  have cb := canBe_c (fu := fu) (y := y) h.ca (by omega) hu
  rw [t1, pe] at cb
  -- the end
  have fin : ∀ (z : Int32) {ρ : tM} {C1 : tS}, CM b0 ρ C1 D → (z = 0 ∨ z = 1) → wp (FC b0) ρ (J_X10_path_65 b0 fu (b0 + 0) y z ρ) (fun v τ => v = (if z = 0 then -9 else y) ∧ CM b0 τ (up2 C1 26 1 0) D) := by
    intro z ρ C1 hρ hz
    have L1 := hρ.lay
    unfold J_X10_path_65 J_X10_path_82
    rw [ckC_0 L1, osm_p (rfC_0_6 L1), ckC_26 L1]
    refine wp_bind (FC_good b0) (useUp_c (fu := fu) hρ) ?_
    intro _ ρ2 q
    by_cases c : z = 0
    · rw [if_pos c, if_pos c]
      exact wp_ret ((FC_good b0).1 _) ⟨rfl, q⟩
    · rw [if_neg c, if_neg c]
      exact wp_ret ((FC_good b0).1 _) ⟨rfl, q⟩
  have no : ptA x y A = (-9, paB A) → wp (FC b0) σ (J_X10_path_25 b0 fu (b0 + 0) x y 0 σ) (fun v τ => v = iz (ptA x y A).1 ∧ ∃ C', CM b0 τ C' D ∧ TP C' (ptA x y A).2 ∧ ∀ p, p ≠ 26 → p ≠ 28 → p ≠ 29 → p ≠ 30 → p ≠ 31 → C' p = C p) := by
    intro e
    rw [e]
    unfold J_X10_path_25 J_X10_path_49
    rw [if_pos rfl, if_pos rfl]
    refine wp_mono (fin 0 h (Or.inl rfl)) ?_
    intro v ρ _ ⟨q1, q2⟩
    refine ⟨by rw [q1]; rfl, _, q2, ?_, fun p hp _ _ _ _ => up2_rown hp⟩
    have z0 := lsF_62 (A := A) (B := paB A) (w := 0) (by unfold paB; rw [up2_rown (by decide), up2_rown (by decide)]) (by unfold paB; rw [up2_o (by decide), up2_o (by decide)])
    have z1 := lsF_62 (A := A) (B := paB A) (w := 1) (by unfold paB; rw [up2_rown (by decide), up2_rown (by decide)]) (by unfold paB; rw [up2_o (by decide), up2_o (by decide)])
    refine ⟨?_, fun j => ?_, ?_, ?_⟩
    · dsimp only
      unfold paB
      rw [up2_s, up2_s]
    · dsimp only
      unfold paB
      rw [up2_o (by decide), up2_o (by decide), up2_o (by decide)]
      exact t2 j
    · dsimp only
      rw [z0.1, z0.2, up2_rown (by decide), up2_rown (by decide), show paB A 64 = A 64 by unfold paB; rw [up2_rown (by decide), up2_rown (by decide)], show paB A 62 = A 62 by unfold paB; rw [up2_rown (by decide), up2_rown (by decide)]]
      exact t3
    · dsimp only
      rw [z1.1, z1.2, up2_rown (by decide), up2_rown (by decide), show paB A 64 = A 64 by unfold paB; rw [up2_rown (by decide), up2_rown (by decide)], show paB A 63 = A 63 by unfold paB; rw [up2_rown (by decide), up2_rown (by decide)]]
      exact t4
  have key : ∀ w, w < 2 → x = nI w → wp (FC b0) σ (J_X10_path_9 b0 fu (b0 + 0) x y σ) (fun v τ => v = iz (ptA x y A).1 ∧ ∃ C', CM b0 τ C' D ∧ TP C' (ptA x y A).2 ∧ ∀ p, p ≠ 26 → p ≠ 28 → p ≠ 29 → p ≠ 30 → p ≠ 31 → C' p = C p) := by
    intro w hw hx
    unfold J_X10_path_9 J_X10_path_24
    rw [ckC_0 L, osm_p (rfC_0_6 L), ckC_26 L, cb, cll_some]
    by_cases c : y < 0 ∨ (120 : Int32) < y ∨ A 35 57 < y.toNatClampNeg ∨ sr (fun k => !prN A k) 0 y.toNatClampNeg < y.toNatClampNeg
    · rw [if_pos c, if_pos (show nI 0 = 0 from rfl)]
      exact no (by unfold ptA; rw [if_pos (by rcases c with c | c | c | c <;> simp [c])])
    · rw [if_neg c, if_neg (show ¬ nI 1 = 0 by decide)]
      have c0 : ¬ y < 0 := fun r => c (Or.inl r)
      have c3 : ¬ (120 : Int32) < y := fun r => c (Or.inr (Or.inl r))
      obtain ⟨n, hn, rfl⟩ := nI_of c0
      have n1 : n ≤ 120 := by
        have : ¬ 120 < n := fun r => c3 ((nI_ltP (a := 120) (b := n) (by omega) hn).mpr r)
        omega
      have eP : ptA x (nI n) A = (((n : Nat) : Int), up2 (upR (paB A) (62 + w) (fun j => if j < n then A 70 j else A (62 + w) j)) 64 w n) := by
        unfold ptA
        subst hx
        rw [if_neg, nI_cl hn, nI_cl (by omega)]
        intro r
        rcases r with r | r | r
        · exact nI_pos (by omega) r
        · have := (nI_ltP (a := 1) (b := w) (by omega) (by omega)).mp r
          omega
        · exact c r
      rw [eP]
      have ee : J_X10_path_25 b0 fu (b0 + 0) x (nI n) 1 σ = cll (m_X3_take b0 fu (b0 + (28 + 2 * w)) (b0 + 26) (nI n) σ) (fun _ ρ => J_X10_path_65 b0 fu (b0 + 0) (nI n) 1 ρ) := by
        unfold J_X10_path_25 J_X10_path_49
        have : w = 0 ∨ w = 1 := by omega
        rcases this with rfl | rfl
        · rw [if_neg (by decide), if_pos (by rw [hx]; rfl), ckC_0 L, osm_p (rfC_0_7 L), osm_p (rfC_0_6 L), ckC_28 L]
        · rw [if_neg (by decide), if_neg (by rw [hx]; decide), if_neg (by decide), ckC_0 L, osm_p (rfC_0_8 L), osm_p (rfC_0_6 L), ckC_30 L]
      rw [ee]
      refine wp_bind (FC_good b0) (take_c (fu := fu) (p := 28 + 2 * w) (by omega) n1 h hu) ?_
      intro _ ρ q1
      refine wp_mono (fin 1 q1 (Or.inr rfl)) ?_
      intro v ρ2 _ ⟨r1, r2⟩
      refine ⟨by rw [r1, if_neg (by decide), iz_n], _, r2, ?_, fun p a1 a2 a3 a4 a5 => by rw [up2_rown a1, tk_o (by omega) (by omega)]⟩
      have pb : ∀ o, o ≠ 35 → paB A o = A o := fun o ho => by unfold paB; rw [up2_rown ho, up2_rown ho]
      generalize hB : up2 (upR (paB A) (62 + w) (fun j => if j < n then A 70 j else A (62 + w) j)) 64 w n = B
      have hBo : ∀ o, o ≠ 62 + w → o ≠ 64 → B o = paB A o := fun o h1 h2 => by
        funext j
        rw [← hB, up2_o h2, upR_o h1]
      have hBw : ∀ v, v ≠ w → B 64 v = A 64 v := fun v hv => by
        rw [← hB, up2_j hv, upR_o (by omega), pb 64 (by decide)]
      have hB1 : ∀ j, B (62 + w) j = if j < n then A 70 j else A (62 + w) j := fun j => by
        rw [← hB, up2_o (by omega), upR_s]
      have hB2 : B 64 w = n := by rw [← hB, up2_s]
      have st : C (28 + 2 * w + 1) = A (62 + w) := by
        funext j
        have : w = 0 ∨ w = 1 := by omega
        rcases this with rfl | rfl
        · exact t3.2.2.2 j
        · exact t4.2.2.2 j
      have k1 := lsF_tk (C := C) (A := A) (B := B) (w := w) (n := n) hw t2 (fun j => by rw [st]) hB1 hB2
      refine ⟨?_, fun j => ?_, ?_, ?_⟩
      · dsimp only
        rw [up2_s, hBo 35 (by omega) (by decide)]
        unfold paB
        rw [up2_s]
      · dsimp only
        rw [up2_o (by decide), tk_o (by omega) (by omega), hBo 70 (by omega) (by decide), pb 70 (by decide)]
        exact t2 j
      · dsimp only
        rw [up2_rown (by decide), up2_rown (by decide)]
        have : w = 0 ∨ w = 1 := by omega
        rcases this with rfl | rfl
        · rw [hB2]
          exact k1
        · have z := lsF_62 (A := A) (B := B) (w := 0) (by rw [hBo 62 (by decide) (by decide), pb 62 (by decide)]) (hBw 0 (by decide))
          rw [tk_o (by decide) (by decide), tk_o (by decide) (by decide), z.1, z.2, hBw 0 (by decide), hBo 62 (by decide) (by decide), pb 62 (by decide)]
          exact t3
      · dsimp only
        rw [up2_rown (by decide), up2_rown (by decide)]
        have : w = 0 ∨ w = 1 := by omega
        rcases this with rfl | rfl
        · have z := lsF_62 (A := A) (B := B) (w := 1) (by rw [hBo 63 (by decide) (by decide), pb 63 (by decide)]) (hBw 1 (by decide))
          rw [tk_o (by decide) (by decide), tk_o (by decide) (by decide), z.1, z.2, hBw 1 (by decide), hBo 63 (by decide) (by decide), pb 63 (by decide)]
          exact t4
        · rw [hB2]
          exact k1
  by_cases c0 : x = 0
  · rw [if_pos c0]
    exact key 0 (by omega) c0
  · rw [if_neg c0]
    by_cases c1 : x = 1
    · rw [if_pos c1]
      exact key 1 (by omega) c1
    · rw [if_neg c1]
      unfold J_X10_path_24
      refine no ?_
      unfold ptA
      rw [if_pos]
      by_cases c2 : x < 0
      · exact Or.inl c2
      · obtain ⟨n, hn, rfl⟩ := nI_of c2
        refine Or.inr (Or.inl ?_)
        show nI 1 < nI n
        rw [nI_ltP (by omega) hn]
        have a0 : n ≠ 0 := fun r => c0 (by rw [r]; rfl)
        have a1 : n ≠ 1 := fun r => c1 (by rw [r]; rfl)
        omega
end PT
