/-! ===== PURE: the reference's public methods: rename, its end ===== -/
def tz (t : Option Nat) : Int32 := match t with | none => -1 | some t => nI t
def rnE (A : tS) (d k : Nat) (t : Option Nat) : tS := match t with
  | none => remA A d k
  | some t => if nd (remA A d k) t 0 = 2 then setN (remA A d k) t 0 0 else loA (remA A d k) t
def rnEok (A : tS) (d k : Nat) (t : Option Nat) : Prop := dirOk A d ∧ k < eAll A d ∧ reOk A d k ∧ ∀ x, t = some x → x < 64 ∧ (nd (remA A d k) x 0 ≠ 2 → loOk (remA A d k) x)
def rnP (A : tS) (n e : Nat) : tS := if nd A n 0 = 2 then setN A n 3 e else A
def rnM (A : tS) (n e : Nat) (t : Option Nat) : Int := match t with | none => mrN A n e | some t => mrS A n e t
def rn1 (A : tS) (n e : Nat) (t : Option Nat) : tS := match t with | none => addA A e (A 67) (A 35 53) n | some _ => putE A e (kf A e) n
def rnT (A : tS) (e : Nat) : Option Nat := if kf A e < eAll A e then some (eN A e (kf A e)) else none
def rn2 (d k n : Nat) (A : tS) (e : Nat) : Int × tS :=
  if rnT A e = some n then ((n : Int), A) else if rnM A n e (rnT A e) < 0 then (rnM A n e (rnT A e), A)
  else ((n : Int), rnE (rnP (rn1 A n e (rnT A e)) n e) d k (rnT A e))
def rn2Ok (d k n : Nat) (A : tS) (e : Nat) : Prop :=
  (nd A n 0 = 2 → bwOk A n 64 e) ∧ A 35 7 ≤ 2000 ∧
  (rnT A e ≠ some n → 0 ≤ rnM A n e (rnT A e) → (rnT A e = none → aeOk A e) ∧ okS A ∧ rnEok (rnP (rn1 A n e (rnT A e)) n e) d k (rnT A e))
def rnG (A : tS) (d : Nat) : Int × tS := if eAll A d ≤ kf A d then (-1, A) else hdX A 1 (A 35 51) (rn2 d (kf A d) (eN A d (kf A d)))
section RO
variable {b0 fu : Nat} {σ τ : tM} {A B U : tS} {N N' K K' : Nat} {J : tJ}
theorem rn201 {d k n : Nat} {t : Option Nat} (h : RM b0 J σ A N) (hN : N + 1200 < 65536) (ho : rnEok A d k t) (hu : 10000 ≤ fu) : wp (FR b0) σ (J_X12_rename_201 b0 fu (b0 + 35) (nI d) (nI k) (nI n) (tz t) σ) (fun v τ => v = nI n ∧ RM b0 J τ (rnE A d k t) (N + 68)) := by
  obtain ⟨o1, o2, o3, o4⟩ := ho
  unfold J_X12_rename_201 J_X12_rename_243
  rw [ckR_35 h.ra.lay]
  refine wp_bind (FR_good b0) (reOk_wp (fu := fu) h (by omega) o1 o2 o3 hu) ?_
  intro _ ρ h2
  have L2 := h2.ra.lay
  cases t with
  | none =>
    rw [if_neg (show ¬ (0 : Int32) ≤ tz none by decide)]
    exact wp_ret ((FR_good b0).1 _) ⟨rfl, RM_le h2 (by omega)⟩
  | some x =>
    obtain ⟨x64, o5⟩ := o4 x rfl
    show wp (FR b0) ρ (if (0 : Int32) ≤ nI x then _ else _) _
    rw [if_pos (Int32.not_lt.mp (nI_pos (by omega))), ckR_35 L2]
    show wp (FR b0) ρ (cll (m_X12_node b0 fu (b0 + 35) (nI x) (nI 0) ρ) (fun v4 ρ5 => if v4 = nI 2 then _ else _)) _
    rw [node_nd h2.ra x64 (by omega), cll_some, if_e (nd_bd h2.ra _ _) (by omega)]
    unfold rnE
    by_cases c : nd (remA A d k) x 0 = 2
    · simp only [if_pos c]
      rw [ckR_35 L2]
      refine wp_bind (FR_good b0) (putNode_wp (fu := fu) (w := 0) (v := 0) h2 (by omega) x64 (by omega) (show 0 < 4 by omega)) ?_
      intro _ ρ2 h3
      exact wp_ret ((FR_good b0).1 _) ⟨rfl, RM_le h3 (by omega)⟩
    · simp only [if_neg c]
      rw [ckR_35 L2]
      refine wp_bind (FR_good b0) (lose_wp (fu := fu) h2 (by omega) (by omega) x64 (o5 c).1 (o5 c).2) ?_
      intro _ ρ2 h3
      exact wp_ret ((FR_good b0).1 _) ⟨rfl, RM_le h3.2 (by omega)⟩
theorem rn183 {d k n e : Nat} {t : Option Nat} (h : RM b0 J σ A N) (hN : N + 1300 < 65536) (hn : n < 64) (he : e < 64) (ho : rnEok (rnP A n e) d k t) (hu : 10000 ≤ fu) : wp (FR b0) σ (J_X12_rename_183 b0 fu (b0 + 35) (nI d) (nI k) (nI n) (nI e) (tz t) σ) (fun v τ => v = nI n ∧ RM b0 J τ (rnE (rnP A n e) d k t) (N + 69)) := by
  have L := h.ra.lay
  unfold J_X12_rename_183
  rw [ckR_35 L]
  show wp (FR b0) σ (cll (m_X12_node b0 fu (b0 + 35) (nI n) (nI 0) σ) (fun v4 ρ5 => if v4 = nI 2 then _ else _)) _
  rw [node_nd h.ra hn (by omega), cll_some, if_e (nd_bd h.ra _ _) (by omega)]
  unfold rnP at ho ⊢
  by_cases c : nd A n 0 = 2
  · simp only [if_pos c] at ho ⊢
    rw [ckR_35 L]
    refine wp_bind (FR_good b0) (putNode_wp (fu := fu) (w := 3) (v := e) h (by omega) hn (by omega) (show e < 64 from he)) ?_
    intro _ ρ2 h3
    obtain ⟨v, τ, x1, x2, x3, x4⟩ := rn201 (fu := fu) (n := n) h3 (by omega) ho hu
    exact ⟨v, τ, x1, x2, x3, RM_le x4 (by omega)⟩
  · simp only [if_neg c] at ho ⊢
    obtain ⟨v, τ, x1, x2, x3, x4⟩ := rn201 (fu := fu) (n := n) h (by omega) ho hu
    exact ⟨v, τ, x1, x2, x3, RM_le x4 (by omega)⟩
theorem lk0_bd {e : Nat} : -10 ≤ lk0 A e ∧ lk0 A e < 64 := by unfold lk0; split <;> omega
theorem rnM_bd {n e : Nat} (t : Option Nat) : -10 ≤ rnM A n e t ∧ rnM A n e t < 64 := by
  have := lk0_bd (A := A) (e := e)
  cases t with
  | none =>
    show -10 ≤ mrN A n e ∧ mrN A n e < 64
    unfold mrN
    split
    · split <;> omega
    · omega
  | some t =>
    show -10 ≤ mrS A n e t ∧ mrS A n e t < 64
    unfold mrS
    split
    · split
      · omega
      · split
        · split <;> omega
        · omega
    · split <;> omega
theorem rn122 {d k n e : Nat} (h : RM b0 J σ A N) (hN : N + 1400 < 65536) (hn : n < 64) (hD : dirOk A e) (hm : A 35 53 < 29) (hc : ∀ i, i < A 35 53 → A 67 i < 128) (ho : rn2Ok d k n A e) (hu : 10000 ≤ fu) : wp (FR b0) σ (J_X12_rename_122 b0 fu (b0 + 35) (nI d) (nI k) (nI n) (nI e) (fz A e) (tz (rnT A e)) σ) (fun v τ => v = iz (rn2 d k n A e).1 ∧ RM b0 J τ (rn2 d k n A e).2 (N + 120)) := by
  have L := h.ra.lay
  have he : e < 64 := hD.1
  obtain ⟨o1, o2, o3⟩ := ho
  have mb := rnM_bd (A := A) (n := n) (e := e) (rnT A e)
  have ge := iz_ge mb.1 mb.2
  have em : m_X12_mayRename b0 fu (b0 + 35) (nI n) (nI e) (tz (rnT A e)) σ = some (iz (rnM A n e (rnT A e)), σ) := by
    have t64 : ∀ t, rnT A e = some t → t < 64 := fun t ht => by
      unfold rnT at ht
      by_cases c : kf A e < eAll A e
      · rw [if_pos c] at ht
        have n64 : eN A e (kf A e) < 64 := eN_f h.ok (show ¬ eAll A e ≤ fA A e (A 67) (A 35 53) from Nat.not_le.mpr c)
        cases ht
        exact n64
      · rw [if_neg c] at ht
        cases ht
    generalize rnT A e = t at t64
    cases t with
    | none => exact mayRename_n h.ra h.ok hn hD o2 hu o1
    | some t => exact mayRename_s h.ra h.ok hn (t64 t rfl) he hu o1
  have es : (tz (rnT A e) = nI n) ↔ rnT A e = some n := by
    have t64 : ∀ t, rnT A e = some t → t < 64 := fun t ht => by
      unfold rnT at ht
      by_cases c : kf A e < eAll A e
      · rw [if_pos c] at ht
        have n64 : eN A e (kf A e) < 64 := eN_f h.ok (show ¬ eAll A e ≤ fA A e (A 67) (A 35 53) from Nat.not_le.mpr c)
        cases ht
        exact n64
      · rw [if_neg c] at ht
        cases ht
    generalize rnT A e = t at t64
    cases t with
    | none =>
      refine ⟨fun q => ?_, fun q => by cases q⟩
      have : ¬ nI n < 0 := nI_pos (by omega)
      rw [← q] at this
      exact absurd (show tz none < 0 by decide) this
    | some t =>
      have := t64 t rfl
      refine ⟨fun q => ?_, fun q => by cases q; rfl⟩
      rw [(nI_eqP (by omega) (by omega)).mp q]
  unfold J_X12_rename_122
  unfold rn2
  by_cases c : rnT A e = some n
  · rw [if_pos (es.mpr c), if_pos c]
    exact wp_ret ((FR_good b0).1 _) ⟨(iz_n n).symm, RM_le h (by omega)⟩
  · rw [if_neg (fun q => c (es.mp q)), if_neg c, ckR_35 L, em, cll_some]
    by_cases c2 : rnM A n e (rnT A e) < 0
    · rw [if_neg (fun q => by have := ge.mp q; omega), if_pos c2]
      exact wp_ret ((FR_good b0).1 _) ⟨rfl, RM_le h (by omega)⟩
    · rw [if_pos (ge.mpr (by omega)), if_neg c2]
      obtain ⟨p1, p2, p3⟩ := o3 c (by omega)
      by_cases c3 : kf A e < eAll A e
      · have eT : rnT A e = some (eN A e (kf A e)) := if_pos c3
        have n64 : eN A e (kf A e) < 64 := eN_f h.ok (show ¬ eAll A e ≤ fA A e (A 67) (A 35 53) from Nat.not_le.mpr c3)
        have k8 : kf A e / 8 < nd A e 1 / 256 := by unfold eAll at c3; omega
        rw [eT] at p3 ⊢
        show wp (FR b0) σ (if nI (eN A e (kf A e)) < 0 then _ else _) _
        rw [if_neg (nI_pos (by omega)), ckR_35 L, (fz_ge hD).2 c3]
        refine wp_bind (FR_good b0) (putEntry_wp (fu := fu) h (by omega) p2 he (by have := hD.2.1; omega) (hD.2.2 _ k8) (show n < 65 by omega)) ?_
        intro _ ρ h2
        obtain ⟨v, τ, x1, x2, x3, x4⟩ := rn183 (fu := fu) h2 (by omega) hn he p3 hu
        exact ⟨v, τ, x1, x2, by rw [x3]; exact (iz_n n).symm, RM_le x4 (by omega)⟩
      · have eT : rnT A e = none := if_neg c3
        have p1 := p1 eT
        rw [eT] at p3 ⊢
        rw [if_pos (show tz none < 0 by decide), ckR_35 L, osm_p (rfR_35_52 L), rf_53 h.ra]
        refine wp_bind (FR_good b0) (aeOk_wp (fu := fu) h (by omega) p1 hm (by omega) hc hu) ?_
        intro _ ρ h2
        obtain ⟨v, τ, x1, x2, x3, x4⟩ := rn183 (fu := fu) h2 (by omega) hn he p3 hu
        exact ⟨v, τ, x1, x2, by rw [x3]; exact (iz_n n).symm, RM_le x4 (by omega)⟩
theorem wa1_o {w s o : Nat} (A : tS) (h1 : o ≠ 67) (h2 : o ≠ 35) : wa1 A w s o = A o := by
  funext j
  unfold wa1
  rw [up2_o h2, cp67_o h1, up2_o h2]
theorem wa1_51 {w s : Nat} (A : tS) : wa1 A w s 35 51 = s := up2_s _ _ _ _
theorem wa1_7 {w s : Nat} (A : tS) : wa1 A w s 35 7 = A 35 7 := by unfold wa1; rw [up2_j (by decide), cp67_o (by decide), up2_j (by decide)]
theorem wa1_ne {w s s3 o j : Nat} (A : tS) (h : ¬ (o = 35 ∧ j = 51)) : wa1 A w s o j = wa1 A w s3 o j := by
  unfold wa1
  by_cases e : o = 35
  · rw [up2_j (fun q => h ⟨e, q⟩), up2_j (fun q => h ⟨e, q⟩)]
  · rw [up2_o e, up2_o e]
theorem wa1_cong {X Y : tS} {v s2 : Nat} (hv : v < 2) (h : ∀ o j, ¬ (o = 35 ∧ j = 51) → X o j = Y o j) : wa1 X v s2 = wa1 Y v s2 := by
  have r62 : X (62 + v) = Y (62 + v) := by funext j; exact h _ _ (fun q => by omega)
  have r64 : X 64 = Y 64 := by funext j; exact h _ _ (fun q => by omega)
  have eF : lsF X v = lsF Y v := by unfold lsF; rw [r62, r64]
  have eN' : lsN X v = lsN Y v := by unfold lsN; rw [r62, r64]
  funext o j
  unfold wa1 cp67
  rw [eF, eN', r62]
  by_cases e : o = 35 ∧ j = 51
  · obtain ⟨rfl, rfl⟩ := e
    rw [up2_s, up2_s]
  · unfold up2
    simp only [h o j e]
theorem wa_cong {X Y : tS} {v : Nat} (hv : v < 2) (h : ∀ o j, ¬ (o = 35 ∧ j = 51) → X o j = Y o j) : waA X v = waA Y v ∧ lsN X v = lsN Y v := by
  have r62 : X (62 + v) = Y (62 + v) := by funext j; exact h _ _ (fun q => by omega)
  have r64 : X 64 = Y 64 := by funext j; exact h _ _ (fun q => by omega)
  have r36 : X 36 = Y 36 := by funext j; exact h _ _ (fun q => by omega)
  have eF : lsF X v = lsF Y v := by unfold lsF; rw [r62, r64]
  have eN' : lsN X v = lsN Y v := by unfold lsN; rw [r62, r64]
  refine ⟨?_, eN'⟩
  have ew : wkA X = wkA Y := by funext fo cs; exact wk_36 r36 fo 1000 0 0 cs
  have ed : dts X v = dts Y v := by unfold dts; rw [eF, eN', r62]
  unfold waA
  rw [eF, r62, ew, ed, (on36 r36).1]
theorem hdX_cong {X Y : tS} {v s : Nat} {g : tS → Nat → Int × tS} (hv : v < 2) (h : ∀ o j, ¬ (o = 35 ∧ j = 51) → X o j = Y o j) : hdX X v s g = hdX Y v s g := by
  unfold hdX
  rw [(wa_cong hv h).1, (wa_cong hv h).2, wa1_cong hv h]
theorem kf_cong {X Y : tS} {d : Nat} (h : ∀ o j, ¬ (o = 35 ∧ j = 51) → X o j = Y o j) : kf X d = kf Y d ∧ eAll X d = eAll Y d ∧ eN X d = eN Y d := by
  have r36 : X 36 = Y 36 := by funext j; exact h _ _ (fun q => by omega)
  have r67 : X 67 = Y 67 := by funext j; exact h _ _ (fun q => by omega)
  have r53 : X 35 53 = Y 35 53 := h _ _ (fun q => by omega)
  obtain ⟨o1, o2, o3, o4, o5, o6, o7, o8⟩ := on36 r36
  unfold kf
  rw [o7, o6, o5, r67, r53]
  exact ⟨rfl, rfl, rfl⟩
theorem bd_wa1 {w s : Nat} (hw : w < 2) (h : bdOk A) : bdOk (wa1 A w s) := by
  obtain ⟨h1, h2, h3⟩ := h
  have e36 := wa1_36 (w := w) (s := s) A
  obtain ⟨o1, o2, o3, o4, o5, o6, o7, o8⟩ := on36 e36
  refine ⟨fun v hv => ?_, fun d hd q => ?_, ?_⟩
  · rw [wa1_o A (by omega) (by omega), wa1_o A (by omega) (by omega)]
    exact h1 v hv
  · rw [o1] at q
    have := h2 d hd q
    unfold dirOk at this ⊢
    rw [o1, o4]
    exact this
  · rw [wa1_7]
    exact h3
def rnOk (A : tS) : Prop := ∀ s s2 (d e : Nat), waA A 0 = (d : Int) → kf (wa1 A 0 s) d < eAll A d → waA A 1 = (e : Int) → lsN A 1 ≤ 28 → rn2Ok d (kf (wa1 A 0 s) d) (eN A d (kf (wa1 A 0 s) d)) (wa1 (wa1 A 0 s) 1 s2) e
theorem rename_wp (h : RM b0 J σ A N) (hN : N + 1500 < 65536) (hl : A 35 6 ≤ 4096) (ho : uaOk (up2 A 35 0 0) J) (hu : 1200000 ≤ fu) (hb : ∀ un p, un ≤ N → uaX (up2 A 35 0 0) J un = .inl p → bdOk p.1 ∧ rnOk p.1) :
    wp (FR b0) σ (m_X12_rename b0 fu (b0 + 35) σ) (PQ b0 N (N + 120) A J (fun A s => hdX A 0 s rnG)) := by
  refine wp_grw (FR_good b0) (pub2_wp h hl ho hu (by omega) (fun un p ρ hun e q => ?_))
  obtain ⟨b1, b2⟩ := hb un p hun e
  generalize p.1 = A at *
  refine head_wp (w := 0) q (by omega) b1.1 b1.2.1 (by omega) (by omega) ?_
  intro s d ρ2 e1 e2 e3 e4 e5 h2
  have L2 := h2.ra.lay
  obtain ⟨z1, z2⟩ := fz_ge e4
  have b3 := b2 s
  have c3 := bd_wa1 (w := 0) (s := s) (by omega) b1
  have wc := wa_cong (X := wa1 A 0 s) (Y := A) (v := 1) (by omega)
  have g36 := on36 (wa1_36 (w := 0) (s := s) A)
  unfold J_X12_rename_48
  by_cases c : kf (wa1 A 0 s) d < eAll (wa1 A 0 s) d
  · rw [if_pos (z1.mpr c), z2 c, ckR_35 L2]
    have k8 : kf (wa1 A 0 s) d / 8 < nd (wa1 A 0 s) d 1 / 256 := by unfold eAll at c; omega
    have n64 : eN (wa1 A 0 s) d (kf (wa1 A 0 s) d) < 64 := eN_f h2.ok (show ¬ eAll (wa1 A 0 s) d ≤ fA (wa1 A 0 s) d (wa1 A 0 s 67) (wa1 A 0 s 35 53) from Nat.not_le.mpr c)
    rw [entryNode_eq h2.ra h2.ok e4.1 (by have := e4.2.1; omega) (e4.2.2 _ k8), cll_some, ckR_35 L2]
    have hh := head_wp (fu := fu) (w := 1) (N' := N + 120) (K := fun v28 v37 ρ38 => J_X12_rename_105 b0 fu (b0 + 35) (nI d) (nI (kf (wa1 A 0 s) d)) (nI (eN (wa1 A 0 s) d (kf (wa1 A 0 s) d))) v28 v37 ρ38) (g := rn2 d (kf (wa1 A 0 s) d) (eN (wa1 A 0 s) d (kf (wa1 A 0 s) d))) h2 (by omega) c3.1 c3.2.1 (by omega) (by omega) ?_
    · obtain ⟨v, τ, x1, x2, s', x3, x4⟩ := hh
      have ne : ∀ o j, ¬ (o = 35 ∧ j = 51) → wa1 A 0 s' o j = wa1 A 0 s o j := fun o j hj => wa1_ne A hj
      obtain ⟨k1, k2, k3⟩ := kf_cong (d := d) ne
      have eG : rnG (wa1 A 0 s') d = hdX (wa1 A 0 s) 1 s' (rn2 d (kf (wa1 A 0 s) d) (eN (wa1 A 0 s) d (kf (wa1 A 0 s) d))) := by
        unfold rnG
        rw [k1, k2, k3, if_neg (by omega), wa1_51, hdX_cong (by omega) ne]
      exact ⟨v, τ, x1, x2, s', by rw [eG]; exact x3, by rw [eG]; exact x4⟩
    · intro s2 e' ρ3 f1 f2 f3 f4 f5 h3
      have L3 := h3.ra.lay
      have hok : rn2Ok d (kf (wa1 A 0 s) d) (eN (wa1 A 0 s) d (kf (wa1 A 0 s) d)) (wa1 (wa1 A 0 s) 1 s2) e' := by
        have eN1 : lsN (wa1 A 0 s) 1 = lsN A 1 := by unfold lsN; rw [wa1_o A (by omega) (by omega), wa1_o A (by omega) (by omega)]
        have := b3 s2 d e' e1 (by rw [← g36.2.2.2.2.2.1]; exact c) ?_ (by omega)
        · rw [← g36.2.2.2.2.1] at this
          exact this
        · have ea : waA (wa1 A 0 s) 1 = waA A 1 := by
            have r36 := wa1_36 (w := 0) (s := s) A
            have r63 : wa1 A 0 s (62 + 1) = A (62 + 1) := wa1_o A (by omega) (by omega)
            have r64 : wa1 A 0 s 64 = A 64 := wa1_o A (by omega) (by omega)
            have eF : lsF (wa1 A 0 s) 1 = lsF A 1 := by unfold lsF; rw [r63, r64]
            have eN' : lsN (wa1 A 0 s) 1 = lsN A 1 := by unfold lsN; rw [r63, r64]
            have ew : wkA (wa1 A 0 s) = wkA A := by funext fo cs; exact wk_36 r36 fo 1000 0 0 cs
            have ed : dts (wa1 A 0 s) 1 = dts A 1 := by unfold dts; rw [eF, eN', r63]
            unfold waA
            rw [eF, r63, ew, ed, g36.1]
          rw [← ea]
          exact f1
      have hcc : ∀ i, i < wa1 (wa1 A 0 s) 1 s2 35 53 → wa1 (wa1 A 0 s) 1 s2 67 i < 128 := fun i hi => by
        rw [wa1_53] at hi
        exact wa1_128 c3.1 (by omega) hi
      have h53 : wa1 (wa1 A 0 s) 1 s2 35 53 < 29 := by rw [wa1_53]; omega
      have r := rn122 (fu := fu) (d := d) (k := kf (wa1 A 0 s) d) h3 (by omega) n64 f4 h53 hcc hok (by omega)
      obtain ⟨y1, y2⟩ := fz_ge f4
      have e4b := f4.2.1
      unfold J_X12_rename_105
      by_cases c4 : kf (wa1 (wa1 A 0 s) 1 s2) e' < eAll (wa1 (wa1 A 0 s) 1 s2) e'
      · have eT : rnT (wa1 (wa1 A 0 s) 1 s2) e' = some (eN (wa1 (wa1 A 0 s) 1 s2) e' (kf (wa1 (wa1 A 0 s) 1 s2) e')) := if_pos c4
        have k9 : kf (wa1 (wa1 A 0 s) 1 s2) e' / 8 < nd (wa1 (wa1 A 0 s) 1 s2) e' 1 / 256 := by unfold eAll at c4; omega
        have en : m_X12_entryNode b0 fu (b0 + 35) (nI e') (fz (wa1 (wa1 A 0 s) 1 s2) e') ρ3 = some (nI (eN (wa1 (wa1 A 0 s) 1 s2) e' (kf (wa1 (wa1 A 0 s) 1 s2) e')), ρ3) := by
          rw [y2 c4]
          exact entryNode_eq h3.ra h3.ok f2 (by omega) (f4.2.2 _ k9)
        rw [eT] at r
        rw [if_pos (y1.mpr c4), ckR_35 L3, en, cll_some]
        obtain ⟨v, τ, x1, x2, x3, x4⟩ := r
        exact ⟨v, τ, x1, x2, s2, x3, x4⟩
      · have eT : rnT (wa1 (wa1 A 0 s) 1 s2) e' = none := if_neg c4
        rw [eT] at r
        rw [if_neg (fun q => c4 (y1.mp q))]
        obtain ⟨v, τ, x1, x2, x3, x4⟩ := r
        exact ⟨v, τ, x1, x2, s2, x3, x4⟩
  · rw [if_neg (fun q => c (z1.mp q))]
    have eG : rnG (wa1 A 0 s) d = (-1, wa1 A 0 s) := if_pos (by omega)
    exact wp_ret ((FR_good b0).1 _) ⟨s, by rw [eG]; rfl, by rw [eG]; exact RM_le h2 (by omega)⟩
end RO
