/-! ===== PURE: calls of the law: sync, fsync, fdatasync, post, writeBack, apply ===== -/
def GVx (m : Nat) (A : tS) (J : tJ) (X : Int × tP) : Prop := GVo m A J X.2.1 X.2.2
section LAS
variable {Φ : tPh} {b0 fu : Nat} {σ τ : tM} {bi sp : Nat → Nat} {w : Nat → Nat × Nat} {C : tS} {D D' : tD} {A B E : tS} {J J' : tJ} {K t un n N N' s e o eb ob v : Nat} {L : Nat} {xs : Nat → Int32} {rc : Nat → Nat → Nat → Int32 → tM → Option (Int32 × tM)} {x4 : Int32}
theorem SZ_OUT {x : Int32 ⊕ Unit} {X : Int × tP} (h : SZ (PH t) b0 bi w D 0 e o x τ X) (he : e ≤ eT t) (ho : o ≤ oT t) : OUT (PH (t + 1)) b0 D (eT t) (oT t) x τ X := by
  rcases h with ⟨h1, h2, sp, C', D', h3, h4, h5, -⟩ | ⟨h1, h2, sp, C', D', h3, h4, h5⟩
  · exact ⟨bi, sp, w, C', D', h3, ST_suc (Or.inl h4), EL_le h5 he ho, Or.inl ⟨h1, h2⟩⟩
  · exact ⟨bi, sp, fun _ => (0, 0), C', D', h3, ST_suc (w := fun _ => (0, 0)) (Or.inr h4), EL_le h5 he ho, Or.inr ⟨h1, h2⟩⟩
theorem step_S {mC : Option ((Int32 ⊕ Unit) × tM)} {mR : tM → Option (Int32 × tM)} {kk : tM → Option (Int32 × tM)} {f : tJ → tS → Nat → Int × tP} (ht : t ≤ 63) (hI : INV b0 t σ eb ob)
    (hC : ∀ C D A J N bi sp w, CM b0 σ C D → ST (PH t) bi sp w C D A J → BV t A J N → ∀ un, un ≤ N → ∃ e o, e ≤ eT t ∧ o ≤ oT t ∧ wp (FC b0) σ mC (fun v τ => SZ (PH t) b0 bi w D 0 e o v τ (upX A J (f J) un)))
    (hR : ∀ C D A J N bi sp w, CM b0 σ C D → ST (PH t) bi sp w C D A J → BV t A J N → ∀ τ, RM b0 J τ A N → wp (FR b0) τ (mR τ) (QW b0 N (upX A J (f J))))
    (hf : ∀ C D A J N bi sp w un, CM b0 σ C D → RO (PH t) bi sp w C D A J → BV t A J N → GVx 9000000 A J (f J A un)) :
    ∃ ρ, cll (grw σ (ckO b0 σ (b0 + 0) 10 (cly mC (fun v3 ρ4 => ckR b0 ρ4 (b0 + 73) 3 (fun n8 => ckI 0 n8 (some ((0 : Int32), sL ρ4 (b0 + 73) ((0 : Int32).toNatClampNeg) v3.toInt64)))) (fun ρ11 => some (1, ρ11))))) (fun v71 ρ72 => ckO b0 ρ72 (b0 + 35) 11 (cll (mR ρ72) (fun v76 ρ77 => ckO b0 ρ77 (b0 + 35) 11 (cll (m_X12_thrown b0 fu (b0 + 35) ρ77) (fun v81 ρ82 => if v81 = v71 then if v71 = 0 then ckR b0 ρ82 (b0 + 73) 3 (fun n88 => ckI 0 n88 (if lg_cmp (tL ρ82 (b0 + 73) ((0 : Int32).toNatClampNeg)) v76.toInt64 = 0 then kk ρ82 else some (0, ρ82))) else kk ρ82 else some (0, ρ82)))))) = kk ρ ∧ (tn σ ≤ tn ρ ∧ tu σ ≤ tu ρ) ∧ INV b0 (t + 1) ρ (eb + eT t) (ob + oT t) := by
  obtain ⟨C, D, A, J, N, bi, sp, w, i1, i2, i3, i4, i5, i6, i7⟩ := hI
  obtain ⟨ρ, e1, e2, e3, un, s, bi', sp', w', C', D', r1, r2, r3, r4, r5⟩ := op_w (fu := fu) (mC := mC) (mR := mR) (kk := kk) (X := fun un _ => upX A J (f J) un) (Φ := PH (t + 1)) (e := eT t) (o := oT t) (N' := N) i1 i2 i3 (fun un hun => by
      obtain ⟨e, o, he, ho, q⟩ := hC C D A J N bi sp w i2 i4 i5 un hun
      exact wp_mono q (fun v τ _ q s => SZ_OUT q he ho)) (fun τ q => wp_mono (hR C D A J N bi sp w i2 i4 i5 τ q) (fun v τ' _ z => by
      obtain ⟨un, z1, z2, z3⟩ := z
      exact ⟨un, 0, z1, z2, z3⟩))
  have fl : (upX A J (f J) un).2.1 35 0 = 1 → (upX A J (f J) un).2.1 35 18 = 0 := fun q => by
    obtain ⟨e, o, -, -, v, τ, -, -, y⟩ := hC C D A J N bi sp w i2 i4 i5 un r1
    rcases y with ⟨-, y, -⟩ | ⟨-, -, sp2, C2, D2, -, y, -⟩
    · rw [y] at q
      cases q
    · exact y.2.1
  have b : BV (t + 1) (upX A J (f J) un).2.1 (upX A J (f J) un).2.2 N := by
    rcases i4 with q | q
    · have on : A 35 18 = 1 := q.2.2.2.2.2.2.1
      have ex : upX A J (f J) un = f J (up2 A 35 0 0) un := if_neg (by omega)
      rw [ex] at fl ⊢
      exact bv_G ht (Nat.le_refl _) (bv_sC i5 (sC_0 (v := 0)) (up2_rown (by decide))) (by rw [up2_j (by decide)]; exact on) fl (hf C D (up2 A 35 0 0) J N bi sp w un i2 (RO_scr (PH_good t) PH_ok q sC_0) (bv_sC i5 (sC_0 (v := 0)) (up2_rown (by decide))))
    · have ex : upX A J (f J) un = ofS (up2 A 35 0 0, J) := if_pos q.2.1
      rw [ex]
      exact bv_suc (bv_off i5)
  exact ⟨ρ, e1, e2, C', D', (upX A J (f J) un).2.1, (upX A J (f J) un).2.2, N, bi', sp', w', e3, r3, r2, r4, b, ar_k r5.1 i6, ar_k2 r5.2 i7⟩
theorem eS_le (bv : BV t A J N) : 14 + 36 * tcA (up2 A 35 0 0) + rcA (up2 A 35 0 0) ≤ eT t ∧ 5 + 2 * tcA (up2 A 35 0 0) ≤ oT t := by
  have t1 : tcA (up2 A 35 0 0) = tcA A := by
    unfold tcA
    rw [up2_rown (by decide)]
  have t2 : rcA (up2 A 35 0 0) = rcA A := by
    unfold rcA
    rw [up2_rown (by decide)]
  rw [t1, t2]
  have h1 := bv.2.1.2.2.2.2.1
  have h2 := bv.2.1.2.2.2.2.2
  generalize tcA A = x at *
  generalize rcA A = y at *
  unfold eT oT
  clear bv t1 t2
  omega
theorem b_S (ht : t ≤ 63) (bv : BV t A J N) (on : A 35 18 = 1) : bdS A 10000000 := by
  obtain ⟨n1, n2, n3, n4⟩ := bv_N ht bv
  exact ⟨dsk_le bv.2.1.1 (by omega), (bv.2.2.2 on).2.2.1, by omega, by omega⟩
theorem bdS_le {K' : Nat} (h : bdS A K) (hk : K' ≤ K) : bdS A K' := ⟨dsk_le h.1 (by omega), h.2⟩
theorem bdS_0 (ht : t ≤ 63) (bv : BV t A J N) : A 35 18 = 1 → bdS (up2 A 35 0 0) 10000000 := fun on => b_S ht (bv_sC bv (sC_0 (v := 0)) (up2_rown (by decide))) (by rw [up2_j (by decide)]; exact on)
/-- a handle leads to a file that has nothing behind its size -/
theorem hd_fil {x : Int32} (P : PH t w A) (hi : HI A) (e : hdA A x = some n) : n < 64 ∧ nd A n 0 = 1 ∧ ∀ i, i < 1064 → nd A n 1 ≤ 256 * i → hasA A n i = 0 := by
  obtain ⟨h1, h2⟩ := hd_HO hi.1 e
  exact ⟨h1, h2, P.di.2.2.2.1 n h1 (Or.inl h2)⟩
theorem wd_RO {q : Option Nat} {p : Nat × tS} (hΦ : goodT Φ) (hok : ∀ w A, Φ w A → okT A) (h : CM b0 σ C D) (hR : RO Φ bi sp w C D A J) (hd : dsk A (K + 2000)) (ho : ∀ n, q = some n → n < 64 ∧ nd A n 0 = 1 ∧ ∀ i, i < 1064 → nd A n 1 ≤ 256 * i → hasA A n i = 0) (e : wdX q 2000 A = .inl p) : ∃ ρ C' D', CM b0 ρ C' D' ∧ RO Φ bi sp w C' D' p.2 J ∧ dsk p.2 K := by
  obtain ⟨v, τ, -, -, y⟩ := writeDirty_c (fu := 3000) (K := K) (o := q) (most := 2000) hΦ hok (by omega) (by omega) h hR hd ho
  rw [e] at y
  obtain ⟨-, C', D', y1, y2, -, y4⟩ := y
  exact ⟨τ, C', D', y1, y2, y4⟩
theorem cm_RO {p : tP} (hΦ : goodT Φ) (hok : ∀ w A, Φ w A → okT A) (h : CM b0 σ C D) (hR : RO Φ bi sp w C D A J) (hb : bdS A K) (g0 : gsA A ≠ 0) (hun : un < 1000000000) (e : cmX A J un = .inl p) : ∃ ρ sp' C' D', CM b0 ρ C' D' ∧ RO Φ bi sp' w C' D' p.1 p.2 ∧ dsk p.1 K := by
  obtain ⟨b1, b2, b3, b4⟩ := hb
  obtain ⟨v, τ, -, -, y⟩ := postGroup_c (fu := 5000) (K := K) (un := un) hΦ hok (Nat.le_refl _) h hR b1 (by omega) (ck_tc (K := K + 4096) hΦ hok h hR (dsk_le b1 (by omega))) b2 hun b3 b4
  clear b2
  generalize cmX A J un = X at y e
  generalize gsA A = gz at y g0
  rw [if_neg g0, e] at y
  obtain ⟨-, sp', C', D', y1, y2, -, y4⟩ := y
  exact ⟨τ, sp', C', D', y1, y2, y4⟩
/-- what the reference asks for, behind writing what is dirty -/
theorem sy_ok {q : Option Nat} (ht : t ≤ 63) (h : CM b0 σ C D) (hR : RO (PH t) bi sp w C D A J) (bv : BV t A J N) (ho : ∀ n, q = some n → n < 64 ∧ nd A n 0 = 1 ∧ ∀ i, i < 1064 → nd A n 1 ≤ 256 * i → hasA A n i = 0) (d : Nat) (B : tS) (e : wdX q 2000 A = .inl (d, B)) : flOk B J ∧ (gsA B ≠ 0 → cfOk (B, J)) := by
  have on : A 35 18 = 1 := hR.2.2.2.2.2.2.1
  obtain ⟨n1, n2, n3, n4⟩ := bv_N ht bv
  have bs := b_S ht bv on
  obtain ⟨ρ, C', D', y1, y2, y3⟩ := wd_RO (K := 12102102) (PH_good t) PH_ok h hR (dsk_le bs.1 (by omega)) ho e
  obtain ⟨f1, f2⟩ := wdX_f e
  have y2 : RO (PH t) bi sp w C' D' B J := y2
  have y3 : dsk B 12102102 := y3
  obtain ⟨z1, z2, z3, z4⟩ := bdS_wd (K := 9998000) bs f1 f2 (dsk_le y3 (by omega))
  have b28 : B 35 28 = A 35 28 := f2 28 (by omega)
  have b34 : B 35 34 = A 35 34 := f2 34 (by omega)
  have k1 : cmOk B J := cm_ok (K := 0) (PH_good t) PH_ok y1 y2 (dsk_le y3 (by omega)) (by rw [b28]; omega) z1.2.1 (by rw [b34]; omega) (by omega)
  refine ⟨fl_ok (K := 0) y2 (dsk_le y3 (by omega)) (by omega), fun g0 => ⟨k1, fun un s hun es => ?_⟩⟩
  obtain ⟨ρ2, sp2, C2, D2, w1, w2, w3⟩ := cm_RO (PH_good t) PH_ok y1 y2 z1 g0 hun es
  have x := (GVo_cm (un := un) (PH_good t) PH_ok y1 y2 (dsk_le y3 (by omega)) (by rw [b28]; omega) z1.2.1).2 s es
  obtain ⟨-, -, -, -, x5⟩ := x.1 0 (dsk_le y3 (by omega))
  exact fl_ok (K := 0) w2 (dsk_le w3 (by omega)) (by omega)
theorem GVo_le {m m' : Nat} (h : GVo m A J B J') (hm : m ≤ m') : GVo m' A J B J' := by
  obtain ⟨z, h1, h2, h3⟩ := h
  exact ⟨z, XS_le h1 (Nat.le_refl _) (Nat.le_refl _) hm, h2, h3⟩
theorem GVx_le {m m' : Nat} {X : Int × tP} (h : GVx m A J X) (hm : m ≤ m') : GVx m' A J X := GVo_le h hm
theorem GVo_id {v : Int} : GVx 9000000 A J ((v, (A, J)) : Int × tP) := GVo_le (GVo_1 (m := 0) XS_r JM_r) (by omega)
/-- dirty blocks first -/
theorem GVo_wd {q : Option Nat} {most m : Nat} {g : Nat → tS → Int × tP} (hd : dsk A 2000) (hg : ∀ d B, wdX q most A = .inl (d, B) → GVx m B J (g d B)) : GVx (2000 + m) A J (wdY q most J A g) := by
  have x := XS_wd (most := most) (q := q) hd.2.1
  unfold wdY
  cases e : wdX q most A with
  | inl p =>
    rw [e] at x
    exact GVo_pre hd x (hg p.1 p.2 e)
  | inr B =>
    rw [e] at x
    exact GVo_le (GVo_1 (XS_f (v := 1) x) JM_r) (by omega)
theorem GVo_sy {q : Option Nat} {d : Nat} (ht : t ≤ 63) (h : CM b0 σ C D) (hR : RO (PH t) bi sp w C D A J) (bv : BV t A J N) (ho : ∀ n, q = some n → n < 64 ∧ nd A n 0 = 1 ∧ ∀ i, i < 1064 → nd A n 1 ≤ 256 * i → hasA A n i = 0) (e : wdX q 2000 A = .inl (d, B)) : GVx 138702 B J (flY d (B, J)) ∧ GVx 138702 B J (cfY un d (B, J)) := by
  have on : A 35 18 = 1 := hR.2.2.2.2.2.2.1
  obtain ⟨n1, n2, n3, n4⟩ := bv_N ht bv
  have bs := b_S ht bv on
  obtain ⟨ρ, C', D', y1, y2, y3⟩ := wd_RO (K := 12102102) (PH_good t) PH_ok h hR (dsk_le bs.1 (by omega)) ho e
  obtain ⟨f1, f2⟩ := wdX_f e
  have y2 : RO (PH t) bi sp w C' D' B J := y2
  have y3 : dsk B 12102102 := y3
  obtain ⟨z1, z2, z3, z4⟩ := bdS_wd (K := 9998000) bs f1 f2 (dsk_le y3 (by omega))
  have b28 : B 35 28 = A 35 28 := f2 28 (by omega)
  obtain ⟨x1, x2⟩ := XS_fl (A := B) (J := J) (d := d)
  exact ⟨GVo_le (GVo_1 x1 x2) (by omega), GVo_cf (PH_good t) PH_ok y1 y2 (dsk_le y3 (by omega)) (by rw [b28]; omega) z1.2.1⟩
theorem GVo_if {g m : Nat} {X Y : Int × tP} (h1 : GVx m A J X) (h2 : GVx m A J Y) : GVx m A J (if g = 0 then X else Y) := by
  by_cases c : g = 0
  · rw [if_pos c]
    exact h1
  · rw [if_neg c]
    exact h2
theorem GVo_wg {q : Option Nat} {most m : Nat} {g0 : tS → Nat} {X Y : Nat → tS → Int × tP} (hd : dsk A 2000) (h : ∀ d B, wdX q most A = .inl (d, B) → GVx m B J (X d B) ∧ GVx m B J (Y d B)) : GVx (2000 + m) A J (wdY q most J A (fun d B => if g0 B = 0 then X d B else Y d B)) := GVo_wd (m := m) hd (fun d B e => GVo_if (h d B e).1 (h d B e).2)
theorem GVo_sn {q : Option Nat} (ht : t ≤ 63) (h : CM b0 σ C D) (hR : RO (PH t) bi sp w C D A J) (bv : BV t A J N) (ho : ∀ n, q = some n → n < 64 ∧ nd A n 0 = 1 ∧ ∀ i, i < 1064 → nd A n 1 ≤ 256 * i → hasA A n i = 0) : GVx 9000000 A J (wdY q 2000 J A (fun d B => if gsA B = 0 then flY d (B, J) else cfY un d (B, J))) :=
  GVx_le (GVo_wg (m := 138702) (g0 := gsA) (X := fun d B => flY d (B, J)) (Y := fun d B => cfY un d (B, J)) (dsk_le bv.2.1.1 (by omega)) (fun d B e => GVo_sy (un := un) ht h hR bv ho e)) (by omega)
theorem law_1594 (ht : t ≤ 63) (hu : 1200000 ≤ fu) (hI : INV b0 t σ eb ob) : ∃ ρ, J_L_law_1594 b0 fu L xs rc (b0 + 0) (b0 + 35) (b0 + 73) x4 σ = J_L_law_1635 b0 fu L xs rc (b0 + 0) (b0 + 35) (b0 + 73) x4 ρ ∧ (tn σ ≤ tn ρ ∧ tu σ ≤ tu ρ) ∧ INV b0 (t + 1) ρ (eb + eT t) (ob + oT t) := by
  unfold J_L_law_1594 m_L_sync
  refine step_S (fu := fu) (mC := m_X10_sync b0 fu (b0 + 0) σ) (mR := fun τ => m_X12_sync b0 fu (b0 + 35) τ) (kk := fun ρ => J_L_law_1635 b0 fu L xs rc (b0 + 0) (b0 + 35) (b0 + 73) x4 ρ) (f := snY) ht hI (fun C D A J N bi sp w c st bv un hun => ?_) (fun C D A J N bi sp w c st bv τ q => ?_) (fun C D A J N bi sp w un c ro bv => ?_)
  · obtain ⟨n1, n2, n3, n4⟩ := bv_N ht bv
    exact ⟨_, _, (eS_le bv).1, (eS_le bv).2, sync_c (PH_good t) PH_ok (by omega) c st (fun on => bdS_le (bdS_0 ht bv on) (by omega)) (Nat.lt_of_le_of_lt (Nat.le_trans hun n1) (by decide))⟩
  · obtain ⟨n1, n2, n3, n4⟩ := bv_N ht bv
    refine sync_wp q (by omega) (fun on => ?_) hu
    rcases st with r | r
    · have ro := RO_scr (PH_good t) PH_ok r (sC_0 (v := 0))
      have bv' := bv_sC bv (sC_0 (v := 0)) (up2_rown (by decide))
      exact ⟨dsk_le bv'.2.1.1 (by omega), sy_ok ht c ro bv' (fun n e => by cases e)⟩
    · exact absurd r.2.1 on
  · exact GVo_sn ht c ro bv (fun n e => by cases e)
theorem law_1482 (g1 : ∀ k : Option (Int32 × tM), ckI (x4 + 1) L k = k) (ht : t ≤ 63) (hu : 1200000 ≤ fu) (hI : INV b0 t σ eb ob) : ∃ ρ, J_L_law_1482 b0 fu L xs rc (b0 + 0) (b0 + 35) (b0 + 73) x4 σ = J_L_law_1535 b0 fu L xs rc (b0 + 0) (b0 + 35) (b0 + 73) x4 ρ ∧ (tn σ ≤ tn ρ ∧ tu σ ≤ tu ρ) ∧ INV b0 (t + 1) ρ (eb + eT t) (ob + oT t) := by
  unfold J_L_law_1482 m_L_fsync
  simp only [g1]
  generalize xs (x4 + 1).toNatClampNeg = x
  refine step_S (fu := fu) (mC := m_X10_fsync b0 fu (b0 + 0) x σ) (mR := fun τ => m_X12_fsync b0 fu (b0 + 35) x τ) (kk := fun ρ => J_L_law_1535 b0 fu L xs rc (b0 + 0) (b0 + 35) (b0 + 73) x4 ρ) (f := fsY x) ht hI (fun C D A J N bi sp w c st bv un hun => ?_) (fun C D A J N bi sp w c st bv τ q => ?_) (fun C D A J N bi sp w un c ro bv => ?_)
  · obtain ⟨n1, n2, n3, n4⟩ := bv_N ht bv
    refine ⟨_, _, (eS_le bv).1, (eS_le bv).2, fsync_c (PH_good t) PH_ok (by omega) c st (fun on => bdS_le (bdS_0 ht bv on) (by omega)) (fun on n e => ?_) (Nat.lt_of_le_of_lt (Nat.le_trans hun n1) (by decide))⟩
    have bv' := bv_sC bv (sC_0 (v := 0)) (up2_rown (by decide))
    rcases st with r | r
    · have ro := RO_scr (PH_good t) PH_ok r (sC_0 (v := 0))
      exact hd_fil ro.2.2.1 (bv'.2.2.2 (by rw [up2_j (by decide)]; exact on)).1 e
    · rw [r.2.1] at on
      cases on
  · obtain ⟨n1, n2, n3, n4⟩ := bv_N ht bv
    refine fsync_wp q (by omega) (fun on n e => ?_) hu
    rcases st with r | r
    · have ro := RO_scr (PH_good t) PH_ok r (sC_0 (v := 0))
      have bv' := bv_sC bv (sC_0 (v := 0)) (up2_rown (by decide))
      have hf := hd_fil ro.2.2.1 (bv'.2.2.2 ro.2.2.2.2.2.2.1).1 e
      exact ⟨hf.1, dsk_le bv'.2.1.1 (by omega), sy_ok ht c ro bv' (fun m e => by cases e; exact hf)⟩
    · exact absurd r.2.1 on
  · show GVx 9000000 A J (fsY x J A un)
    unfold fsY
    cases eh : hdA A x with
    | none => exact GVo_id
    | some n =>
      have hf := hd_fil ro.2.2.1 (bv.2.2.2 ro.2.2.2.2.2.2.1).1 eh
      exact GVo_sn ht c ro bv (fun m e => by cases e; exact hf)
theorem chg_gs (c : CHG A) (hn : n < 64) (h : A 50 n ≠ 0) : gsA A ≠ 0 := by
  obtain ⟨b, b1, b2⟩ := c n hn h
  have : tcA A ≠ 0 := fun z => by
    have := cn_0 (p := fun b => A 51 b != 0) 6200 0 z b (Nat.zero_le _) (by omega)
    have k : (A 51 b != 0) = false := this
    rw [bne_eq_false_iff_eq] at k
    exact b2 k
  unfold gsA
  generalize tcA A = x at *
  generalize rcA A = y at *
  omega
theorem law_1538 (g1 : ∀ k : Option (Int32 × tM), ckI (x4 + 1) L k = k) (ht : t ≤ 63) (hu : 1200000 ≤ fu) (hI : INV b0 t σ eb ob) : ∃ ρ, J_L_law_1538 b0 fu L xs rc (b0 + 0) (b0 + 35) (b0 + 73) x4 σ = J_L_law_1591 b0 fu L xs rc (b0 + 0) (b0 + 35) (b0 + 73) x4 ρ ∧ (tn σ ≤ tn ρ ∧ tu σ ≤ tu ρ) ∧ INV b0 (t + 1) ρ (eb + eT t) (ob + oT t) := by
  unfold J_L_law_1538 m_L_fdatasync
  simp only [g1]
  generalize xs (x4 + 1).toNatClampNeg = x
  refine step_S (fu := fu) (mC := m_X10_fdatasync b0 fu (b0 + 0) x σ) (mR := fun τ => m_X12_fdatasync b0 fu (b0 + 35) x τ) (kk := fun ρ => J_L_law_1591 b0 fu L xs rc (b0 + 0) (b0 + 35) (b0 + 73) x4 ρ) (f := fdY x) ht hI (fun C D A J N bi sp w c st bv un hun => ?_) (fun C D A J N bi sp w c st bv τ q => ?_) (fun C D A J N bi sp w un c ro bv => ?_)
  · obtain ⟨n1, n2, n3, n4⟩ := bv_N ht bv
    refine ⟨_, _, (eS_le bv).1, (eS_le bv).2, fdatasync_c (PH_good t) PH_ok (by omega) c st (fun on => bdS_le (bdS_0 ht bv on) (by omega)) (fun on n e => ?_) (Nat.lt_of_le_of_lt (Nat.le_trans hun n1) (by decide))⟩
    have bv' := bv_sC bv (sC_0 (v := 0)) (up2_rown (by decide))
    rcases st with r | r
    · have ro := RO_scr (PH_good t) PH_ok r (sC_0 (v := 0))
      have b4 := bv'.2.2.2 (by rw [up2_j (by decide)]; exact on)
      have hf := hd_fil ro.2.2.1 b4.1 e
      exact ⟨hf, fun z => chg_gs b4.2.1 hf.1 z⟩
    · rw [r.2.1] at on
      cases on
  · obtain ⟨n1, n2, n3, n4⟩ := bv_N ht bv
    refine fdatasync_wp q (by omega) (fun on n e => ?_) hu
    rcases st with r | r
    · have ro := RO_scr (PH_good t) PH_ok r (sC_0 (v := 0))
      have bv' := bv_sC bv (sC_0 (v := 0)) (up2_rown (by decide))
      have b4 := bv'.2.2.2 ro.2.2.2.2.2.2.1
      have hf := hd_fil ro.2.2.1 b4.1 e
      refine ⟨hf.1, dsk_le bv'.2.1.1 (by omega), fun d B eB => ?_⟩
      obtain ⟨k1, k2⟩ := sy_ok ht c ro bv' (fun m e => by cases e; exact hf) d B eB
      obtain ⟨f1, f2⟩ := wdX_f eB
      refine ⟨f1 71 (by decide) (by decide) (by decide) (by omega), k1, fun z => k2 ?_⟩
      have f50 : B 50 = up2 A 35 0 0 50 := f1 50 (by decide) (by decide) (by decide) (by omega)
      have f51 : B 51 = up2 A 35 0 0 51 := f1 51 (by decide) (by decide) (by decide) (by omega)
      refine chg_gs (n := n) ?_ hf.1 z
      have cg := b4.2.1
      unfold CHG TK at cg ⊢
      rw [f50, f51]
      exact cg
    · exact absurd r.2.1 on
  · have d2 : dsk A 2000 := dsk_le bv.2.1.1 (by omega)
    show GVx 9000000 A J (fdY x J A un)
    unfold fdY
    cases eh : hdA A x with
    | none => exact GVo_id
    | some n =>
      have hf := hd_fil ro.2.2.1 (bv.2.2.2 ro.2.2.2.2.2.2.1).1 eh
      refine GVx_le (GVo_wd (m := 138702) d2 (fun d B e => ?_)) (by omega)
      obtain ⟨y1, y2⟩ := GVo_sy (un := un) ht c ro bv (fun m e => by cases e; exact hf) e
      split
      · exact y1
      · exact y2
theorem law_1638 (ht : t ≤ 63) (hu : 1200000 ≤ fu) (hI : INV b0 t σ eb ob) : ∃ ρ, J_L_law_1638 b0 fu L xs rc (b0 + 0) (b0 + 35) (b0 + 73) x4 σ = J_L_law_1679 b0 fu L xs rc (b0 + 0) (b0 + 35) (b0 + 73) x4 ρ ∧ (tn σ ≤ tn ρ ∧ tu σ ≤ tu ρ) ∧ INV b0 (t + 1) ρ (eb + eT t) (ob + oT t) := by
  unfold J_L_law_1638 m_L_post
  refine step_S (fu := fu) (mC := m_X10_post b0 fu (b0 + 0) σ) (mR := fun τ => m_X12_post b0 fu (b0 + 35) τ) (kk := fun ρ => J_L_law_1679 b0 fu L xs rc (b0 + 0) (b0 + 35) (b0 + 73) x4 ρ) (f := poY) ht hI (fun C D A J N bi sp w c st bv un hun => ?_) (fun C D A J N bi sp w c st bv τ q => ?_) (fun C D A J N bi sp w un c ro bv => ?_)
  · obtain ⟨n1, n2, n3, n4⟩ := bv_N ht bv
    exact ⟨_, _, (eS_le bv).1, (eS_le bv).2, post_c (PH_good t) PH_ok (by omega) c st (fun on => bdS_le (bdS_0 ht bv on) (by omega)) (Nat.lt_of_le_of_lt (Nat.le_trans hun n1) (by decide))⟩
  · obtain ⟨n1, n2, n3, n4⟩ := bv_N ht bv
    refine post_wp q (fun on _ => ?_) hu
    rcases st with r | r
    · have ro := RO_scr (PH_good t) PH_ok r (sC_0 (v := 0))
      have bv' := bv_sC bv (sC_0 (v := 0)) (up2_rown (by decide))
      have bs := b_S ht bv' ro.2.2.2.2.2.2.1
      exact cm_ok (K := 0) (PH_good t) PH_ok c ro (dsk_le bs.1 (by omega)) (by rw [up2_j (by decide)]; omega) bs.2.1 bs.2.2.1 (by omega)
    · exact absurd r.2.1 on
  · obtain ⟨n1, n2, n3, n4⟩ := bv_N ht bv
    have bs := b_S ht bv ro.2.2.2.2.2.2.1
    have hg := bs.2.1
    obtain ⟨k1, k2⟩ := GVo_cm (un := un) (PH_good t) PH_ok c ro (dsk_le bs.1 (by omega)) (by omega) hg
    show GVx 9000000 A J (poY J A un)
    unfold poY
    split
    · exact GVo_id
    · cases e : cmX A J un with
      | inr s => exact GVo_le (k1 s e) (by omega)
      | inl s =>
        obtain ⟨x1, x2, x3, x4⟩ := k2 s e
        exact GVo_le ⟨true, x1, x2, Or.inr ⟨x3, x4⟩⟩ (by omega)
theorem law_1682 (g1 : ∀ k : Option (Int32 × tM), ckI (x4 + 1) L k = k) (ht : t ≤ 63) (hu : 1200000 ≤ fu) (hI : INV b0 t σ eb ob) : ∃ ρ, J_L_law_1682 b0 fu L xs rc (b0 + 0) (b0 + 35) (b0 + 73) x4 σ = J_L_law_1735 b0 fu L xs rc (b0 + 0) (b0 + 35) (b0 + 73) x4 ρ ∧ (tn σ ≤ tn ρ ∧ tu σ ≤ tu ρ) ∧ INV b0 (t + 1) ρ (eb + eT t) (ob + oT t) := by
  unfold J_L_law_1682 m_L_writeBack
  simp only [g1]
  generalize xs (x4 + 1).toNatClampNeg = x
  refine step_S (fu := fu) (mC := m_X10_writeBack b0 fu (b0 + 0) x σ) (mR := fun τ => m_X12_writeBack b0 fu (b0 + 35) x τ) (kk := fun ρ => J_L_law_1735 b0 fu L xs rc (b0 + 0) (b0 + 35) (b0 + 73) x4 ρ) (f := wbY x) ht hI (fun C D A J N bi sp w c st bv un hun => ?_) (fun C D A J N bi sp w c st bv τ q => ?_) (fun C D A J N bi sp w un c ro bv => ?_)
  · exact ⟨6, 1, (eT_6 t).1, (eT_6 t).2, writeBack_c (PH_good t) PH_ok (by omega) c st (fun on => dsk_le (bdS_0 ht bv on).1 (by omega))⟩
  · exact writeBack_wp q (fun _ => dsk_scr (dsk_le bv.2.1.1 (by omega)) (sC_0 (v := 0))) hu
  · have d2 : dsk A 2000 := dsk_le bv.2.1.1 (by omega)
    show GVx 9000000 A J (wbY x J A un)
    unfold wbY
    split
    · exact GVo_id
    · exact GVx_le (GVo_wd (m := 0) d2 (fun d B e => GVo_1 XS_r JM_r)) (by omega)
theorem aq_ok {n : Nat} (hΦ : goodT Φ) (hok : ∀ w A, Φ w A → okT A) : ∀ m d (σ : tM) (C : tS) (D : tD) (A : tS), CM b0 σ C D → RO Φ bi sp w C D A J → A 35 29 - A 35 30 = m → m ≤ 64 → dsk A (134400 * m) → aqOk J n m d A
  | 0, d, σ, C, D, A, h, hR, he, _, hd => by
    show A 35 29 ≤ A 35 30
    omega
  | m + 1, d, σ, C, D, A, h, hR, he, hm, hd => by
    refine Or.inr (Or.inr ⟨ap_ok (K := 0) hR (dsk_le hd (by omega)) (by omega), fun B hB => ?_⟩)
    have aN : apN J 1 A = .inl B := by
      show bX (applyX A J) (apN J 0) = .inl B
      rw [hB]
      rfl
    obtain ⟨f1, f2⟩ := apN_f 1 A B aN
    obtain ⟨v, τ, -, -, q⟩ := applySome_c (fu := 3000) (K := 134400 * m) (most := 1) hΦ hok (by omega) (by omega) h hR (dsk_le hd (by omega))
    rw [show min 1 (A 35 29 - A 35 30) = 1 by omega, aN] at q
    obtain ⟨-, C2, D2, q1, q2, -, q4⟩ := q
    exact aq_ok hΦ hok m (d + 1) τ C2 D2 B q1 q2 (by rw [f2 29 (by decide) (by omega), f1]; omega) (by omega) q4
theorem law_1738 (g1 : ∀ k : Option (Int32 × tM), ckI (x4 + 1) L k = k) (ht : t ≤ 63) (hu : 1200000 ≤ fu) (hI : INV b0 t σ eb ob) : ∃ ρ, J_L_law_1738 b0 fu L xs rc (b0 + 0) (b0 + 35) (b0 + 73) x4 σ = J_L_law_1791 b0 fu L xs rc (b0 + 0) (b0 + 35) (b0 + 73) x4 ρ ∧ (tn σ ≤ tn ρ ∧ tu σ ≤ tu ρ) ∧ INV b0 (t + 1) ρ (eb + eT t) (ob + oT t) := by
  unfold J_L_law_1738 m_L_apply
  simp only [g1]
  generalize xs (x4 + 1).toNatClampNeg = x
  refine step_S (fu := fu) (mC := m_X10_apply b0 fu (b0 + 0) x σ) (mR := fun τ => m_X12_apply b0 fu (b0 + 35) x τ) (kk := fun ρ => J_L_law_1791 b0 fu L xs rc (b0 + 0) (b0 + 35) (b0 + 73) x4 ρ) (f := aqY x) ht hI (fun C D A J N bi sp w c st bv un hun => ?_) (fun C D A J N bi sp w c st bv τ q => ?_) (fun C D A J N bi sp w un c ro bv => ?_)
  · obtain ⟨n1, n2, n3, n4⟩ := bv_N ht bv
    refine ⟨6, 1, (eT_6 t).1, (eT_6 t).2, applyM_c (PH_good t) PH_ok (by omega) c st (fun on => ?_)⟩
    rcases st with r | r
    · have jo := r.1.2.1.2.2.1
      unfold JO at jo
      exact dsk_le (bdS_0 ht bv on).1 (by omega)
    · rw [r.2.1] at on
      cases on
  · obtain ⟨n1, n2, n3, n4⟩ := bv_N ht bv
    refine applyC_wp q (fun on => ?_) hu
    rcases st with r | r
    · have ro := RO_scr (PH_good t) PH_ok r (sC_0 (v := 0))
      have bv' := bv_sC bv (sC_0 (v := 0)) (up2_rown (by decide))
      have jo := r.1.2.1.2.2.1
      unfold JO at jo
      exact ⟨by omega, aq_ok (PH_good t) PH_ok _ 0 σ C D _ c ro (by rw [up2_j (by decide), up2_j (by decide)]) (by omega) (dsk_le bv'.2.1.1 (by omega))⟩
    · exact absurd r.2.1 on
  · obtain ⟨n1, n2, n3, n4⟩ := bv_N ht bv
    have jo := ro.1.2.1.2.2.1
    unfold JO at jo
    show GVx 9000000 A J (aqY x J A un)
    unfold aqY
    split
    · exact GVo_id
    · rw [aq_ap _ _ _ rfl]
      have st := ap_str ro
      have xr := XR_apN (J := J) (min (x.toNatClampNeg - 0) (A 35 29 - A 35 30)) A ⟨st.1, fun k k1 k2 => st.2 k k1 (by omega)⟩
      cases e : apN J (min (x.toNatClampNeg - 0) (A 35 29 - A 35 30)) A with
      | inl B =>
        rw [e, oX_l] at xr
        exact GVo_1 (XS_le (XS_of xr) (Nat.le_refl _) (Nat.le_refl _) (by omega)) JM_r
      | inr B =>
        rw [e, oX_r] at xr
        exact GVo_1 (XS_f (XS_le (XS_of xr) (Nat.le_refl _) (Nat.le_refl _) (by omega))) JM_r
end LAS
