/-! ===== PURE: what the tree's methods leave: each method ===== -/
def MV (B E : tS) : Prop := KQ 290 B E ∧ tQ B E ∧ KG B E ∧ HI E
section MVS
variable {bi : Nat → Nat} {w : Nat → Nat × Nat} {C X A B E Y : tS} {t n m k d r i l v x s sz a e : Nat} {me : Bool}
theorem MV_wa (h : HI B) : MV B (wa1 B v s) := ⟨KQ_le KQ_wa (by omega), tQ_wa, KG_wa, HI_kw h KWn_wa⟩
theorem KQ_mk (S : SR bi w C B) (P : PH t w B) (ht : t < 1000) (hl : v = 3 → B 64 1 ≤ 80) : KQ 290 B (mkR B v s).2 := by
  have hw : KQ 290 B (wa1 B 0 s) := KQ_le KQ_wa (by omega)
  unfold mkR
  split
  · exact hw
  · split
    · exact hw
    · split
      · exact hw
      · rename_i c0 cN ck
        have n64 : mkN B ≤ 0 + 64 := (sr_le _ 64 0).2
        obtain ⟨-, -, -, -, d, hy, d1, d2, -⟩ := pn_d S.ok c0
        rw [hy, Int.toNat_natCast]
        have n0 := mk_lt (A := B) (by omega)
        have nN : mkN B < 64 := by omega
        generalize mkN B = n at *
        obtain ⟨x1, x2, x3, x4, x5, x6, x7, x8⟩ := mkS_fx (A := wa1 B 0 s) (d := d) (v := v) nN (fun y => by rw [wa1_o B (by decide) (by decide)]; exact hl y)
        have dn : d ≠ n := fun y => by rw [y] at d2; omega
        have sz := (P.sf d d1 d2).1
        have e1 : nd (mkS (wa1 B 0 s) n d v) d 1 = nd B d 1 := by
          have : mkS (wa1 B 0 s) n d v 36 (d * 95 + 1) = _ := x1 _ (by omega)
          unfold nd
          rw [this, wa1_36]
        show KQ 290 B (addA (mkS (wa1 B 0 s) n d v) d (wa1 B 0 s 67) (lsN B 0) n)
        exact KQ_le (KQ_t (KQ_t KQ_wa (KQ_35 x7 x8.2)) (KQ_add d1 (ff_1064 (by rw [e1]; omega)))) (by omega)
theorem MV_mk (h : HI B) (S : SR bi w C B) (P : PH t w B) (ht : t < 1000) (hv : v = 1 ∨ v = 2 ∨ v = 3) (hl : v = 3 → B 64 1 ≤ 80) : MV B (mkR B v s).2 := ⟨KQ_mk S P ht hl, tQ_mk, KG_mk (by have := (sr_le (fun n => nd B n 0 == 0) 64 0).2; unfold mkN; omega) (fun q => by have := pn_bd S.ok; omega), HI_mk h S P ht hv hl⟩
theorem MV_ln (h : HI B) (S : SR bi w C B) (P : PH t w B) (ht : t < 1000) : MV B (lnY B s).2 := by
  refine ⟨?_, tQ_ln S.ok, ?_, HI_ln h S P ht⟩
  · have hw : KQ 290 B (wa1 B 0 s) := KQ_le KQ_wa (by omega)
    have h5 : KQ 290 B (up2 B 35 51 s) := ⟨fun o a _ _ _ _ => up2_rown a, fun q _ b _ _ => up2_j b, by rw [up2_j (by decide)]; exact Nat.le_refl _, by rw [up2_j (by decide)]; exact Nat.le_refl _, by rw [up2_j (by decide)]; omega⟩
    by_cases c : wtA B 1 false < 0
    · have : lnY B s = (wtA B 1 false, up2 B 35 51 s) := if_pos c
      rw [this]
      exact h5
    · obtain ⟨x, hx⟩ : ∃ x : Nat, wtA B 1 false = (x : Int) := ⟨(wtA B 1 false).toNat, by omega⟩
      by_cases c2 : nd B x 0 = 2
      · have : lnY B s = (-4, up2 B 35 51 s) := by
          unfold lnY
          rw [hx, Int.toNat_natCast, if_neg (by omega), if_pos c2]
        rw [this]
        exact h5
      · rw [lnY_R S.ok hx c2]
        split
        · exact hw
        · rename_i c0
          split
          · exact hw
          · split
            · exact hw
            · obtain ⟨-, -, -, -, d, hy, d1, d2, -⟩ := pn_d S.ok c0
              rw [hy, Int.toNat_natCast]
              have sz := (P.sf d d1 d2).1
              have e1 : nd (wa1 B 0 s) d 1 = nd B d 1 := by
                unfold nd
                rw [wa1_36]
              show KQ 290 B (setN (addA (wa1 B 0 s) d (wa1 B 0 s 67) (lsN B 0) x) x 2 _)
              exact KQ_le (KQ_t (KQ_t KQ_wa (KQ_add d1 (ff_1064 (by rw [e1]; omega)))) KQ_N) (by omega)
  · by_cases c : wtA B 1 false < 0
    · have : lnY B s = (wtA B 1 false, up2 B 35 51 s) := if_pos c
      rw [this]
      exact KG_51
    · obtain ⟨x, hx⟩ : ∃ x : Nat, wtA B 1 false = (x : Int) := ⟨(wtA B 1 false).toNat, by omega⟩
      by_cases c2 : nd B x 0 = 2
      · have : lnY B s = (-4, up2 B 35 51 s) := by
          unfold lnY
          rw [hx, Int.toNat_natCast, if_neg (by omega), if_pos c2]
        rw [this]
        exact KG_51
      · rw [lnY_R S.ok hx c2]
        obtain ⟨xl, -, -⟩ := wt_us P hx
        split
        · exact KG_wa
        · rename_i c0
          split
          · exact KG_wa
          · split
            · exact KG_wa
            · obtain ⟨-, -, -, -, d, hy, d1, d2, -⟩ := pn_d S.ok c0
              rw [hy, Int.toNat_natCast]
              exact KG_t (KG_t KG_wa (KG_add d1)) (KG_N xl)
/-- the head of unlink, rmdir, rename -/
theorem hd_mv {g : tS → Nat → Int × tS} (h : HI B) (S : SR bi w C B) (P : PH t w B) (hg : ∀ d, d < 64 → nd B d 0 = 2 → lsN B 0 ≤ 28 → SR bi w C (wa1 B 0 s) → PH t w (wa1 B 0 s) → KQ 290 (wa1 B 0 s) (g (wa1 B 0 s) d).2 ∧ KG (wa1 B 0 s) (g (wa1 B 0 s) d).2) : KQ 290 B (hdX B 0 s g).2 ∧ KG B (hdX B 0 s g).2 := by
  obtain ⟨a1, a2, a3⟩ := wa_bd (w := 0) S.ok
  unfold hdX
  split
  · exact ⟨KQ_le KQ_wa (by omega), KG_wa⟩
  · split
    · exact ⟨KQ_le KQ_wa (by omega), KG_wa⟩
    · rename_i c1 c2
      have S1 : SR bi w C (wa1 B 0 s) := SR_oth S (fun _ _ _ => rfl) (fun o ho => wa1_o B (by omega) (by omega)) (fun q hq => by
        unfold wa1
        rw [up2_j (by omega), cp67_o (by decide), up2_j (by omega)])
      have P1 : PH t w (wa1 B 0 s) := PH_good t w B _ (wa1_36 B) (wa1_7 B) P
      obtain ⟨g1, g2⟩ := hg (waA B 0).toNat (by omega) (a3 (by omega)) (by omega) S1 P1
      exact ⟨KQ_le (KQ_t KQ_wa g1) (by omega), KG_t KG_wa g2⟩
theorem MV_ul (h : HI B) (S : SR bi w C B) (P : PH t w B) (ht : t ≤ 64) : MV B (hdX B 0 s ulG).2 := by
  obtain ⟨k1, k2⟩ := hd_mv (g := ulG) (s := s) h S P (fun d d1 d2 _ S1 P1 => by
    have d2' : nd (wa1 B 0 s) d 0 = 2 := by
      unfold nd
      rw [wa1_36]
      exact d2
    generalize wa1 B 0 s = A at *
    have b1 := (nd_k S1.ok d1).2.1
    unfold ulG
    split
    · exact ⟨KQ_le KQ_r (by omega), KG_r⟩
    · split
      · exact ⟨KQ_le KQ_r (by omega), KG_r⟩
      · rename_i hk hk2
        have hk : kf A d < eAll A d := by omega
        have n1 : eN A d (kf A d) < 64 := eN_f S1.ok (by unfold kf at hk; omega)
        have n0 := (P1.di.2.1 d _ d1 d2' hk (by omega)).1
        have kb := (nd_k S1.ok n1).1
        obtain ⟨f1, f2, f3, ⟨f4, f5, f6⟩, f7⟩ := PH_unl (k := kf A d) (x := eN A d (kf A d)) S1 P1 d1 d2' hk rfl (by omega) (by omega)
        have b2 := (nd_k f1.ok n1).2.1
        show KQ 290 A (loA (remA A d (kf A d)) (eN A d (kf A d))) ∧ KG A (loA (remA A d (kf A d)) (eN A d (kf A d)))
        unfold loA
        rw [f4]
        exact ⟨KQ_le (KQ_t (KQ_t (KQ_rem d1 (by omega)) KQ_N) (KQ_mf n1 (by omega))) (by omega), KG_t (KG_t (KG_rem d1) (KG_N n1)) (KG_mf n1)⟩)
  exact ⟨k1, tQ_ul S P ht, k2, HI_ul h S P⟩
theorem MV_rd (h : HI B) (S : SR bi w C B) (P : PH t w B) (ht : t ≤ 64) : MV B (hdX B 0 s rdG).2 := by
  obtain ⟨k1, k2⟩ := hd_mv (g := rdG) (s := s) h S P (fun d d1 d2 _ S1 P1 => by
    generalize wa1 B 0 s = A at *
    have b1 := (nd_k S1.ok d1).2.1
    unfold rdG
    split
    · exact ⟨KQ_le KQ_r (by omega), KG_r⟩
    · split
      · exact ⟨KQ_le KQ_r (by omega), KG_r⟩
      · split
        · exact ⟨KQ_le KQ_r (by omega), KG_r⟩
        · rename_i hk hk2 hk3
          have n1 : eN A d (kf A d) < 64 := eN_f S1.ok (by unfold kf at hk; omega)
          exact ⟨KQ_le (KQ_t (KQ_rem d1 (by omega)) KQ_N) (by omega), KG_t (KG_rem d1) (KG_N n1)⟩)
  exact ⟨k1, tQ_rd S P ht, k2, HI_rd h S⟩
theorem MV_tr {x y : Int32} (h : HI B) (S : SR bi w C B) (P : PH t w B) : MV B (trY x y B s).2 := by
  have k : KQ 290 B (trY x y B s).2 ∧ KG B (trY x y B s).2 := by
    unfold trY
    cases ex : hdA B x with
    | none => exact ⟨KQ_le KQ_r (by omega), KG_r⟩
    | some n =>
      obtain ⟨n1, n2⟩ := hd_HO h.1 ex
      have b1 := (nd_k S.ok n1).2.1
      show KQ 290 B (if y < 0 then (-9, B) else if 272384 < y.toNatClampNeg then (-7, B) else (0, szA B n y.toNatClampNeg)).2 ∧ KG B (if y < 0 then (-9, B) else if 272384 < y.toNatClampNeg then (-7, B) else (0, szA B n y.toNatClampNeg)).2
      split
      · exact ⟨KQ_le KQ_r (by omega), KG_r⟩
      · split
        · exact ⟨KQ_le KQ_r (by omega), KG_r⟩
        · exact ⟨KQ_le (KQ_35 (KP_sz n1 (by omega)).kr s35_sz) (by omega), KG_sz n1⟩
  exact ⟨k.1, tQ_tr S P h.1, k.2, HI_tr h S⟩
theorem KQ_by {p3 : Int32} (S : SR bi w C B) (hn : n < 64) (hl2 : l ≤ 16384) : KQ 290 B (byZ n a l p3 B).2 := by
  have b1 := (nd_k S.ok hn).2.1
  rw [byZ_mr]
  by_cases c : 0 < mrV B n a l
  · rw [if_pos c]
    obtain ⟨g1, g2, g3⟩ := mrV_go c
    have e1 : KQ 0 B (by1 n a l B) := by
      unfold by1
      split
      · exact KQ_r
      · exact KQ_35 (KP_sz hn (by omega)).kr s35_sz
    have e2 : KQ (4 * ((a + l - 1) / 256 + 1 - a / 256)) (by1 n a l B) (by2 n a l B) := KQ_kr (KP_enL hn _ _ _ (by omega)).kr (enL_34 _ _ _)
    exact KQ_le (KQ_t (KQ_t e1 e2) (KQ_35 KR_wb (wbA_o (by decide) (by decide) _ _ _))) (by omega)
  · rw [if_neg c]
    exact KQ_le KQ_r (by omega)
theorem KQ_hb {x off len p3 : Int32} {fit : Bool} (h : HI B) (S : SR bi w C B) (hf : fit = true → ¬ len < 0 → len.toNatClampNeg ≤ 16384) : KQ 290 B (hbY x off len p3 fit B).2 ∧ KG B (hbY x off len p3 fit B).2 := by
  unfold hbY
  cases ex : hdA B x with
  | none => exact ⟨KQ_le KQ_r (by omega), KG_r⟩
  | some n =>
    obtain ⟨n1, n2⟩ := hd_HO h.1 ex
    show KQ 290 B (if off < 0 ∨ len < 0 ∨ fit = false then (-9, B) else byZ n off.toNatClampNeg len.toNatClampNeg p3 B).2 ∧ KG B (if off < 0 ∨ len < 0 ∨ fit = false then (-9, B) else byZ n off.toNatClampNeg len.toNatClampNeg p3 B).2
    by_cases c : off < 0 ∨ len < 0 ∨ fit = false
    · rw [if_pos c]
      exact ⟨KQ_le KQ_r (by omega), KG_r⟩
    · rw [if_neg c]
      exact ⟨KQ_by S n1 (hf (by cases fit with | true => rfl | false => exact absurd (Or.inr (Or.inr rfl)) c) (fun y => c (Or.inr (Or.inl y)))), KG_by n1⟩
theorem MV_hb {x off len p3 : Int32} {fit : Bool} (h : HI B) (S : SR bi w C B) (P : PH t w B) (hf : fit = true → ¬ len < 0 → len.toNatClampNeg ≤ 16384) (h34 : B 35 34 + 300 < 1000000) : MV B (hbY x off len p3 fit B).2 := ⟨(KQ_hb h S hf).1, tQ_hb S P h.1 hf h34, (KQ_hb h S hf).2, HI_hb h S⟩
theorem MV_wr {x off len : Int32} (h : HI B) (S : SR bi w C B) (P : PH t w B) (hf : wrF B len = true → ¬ len < 0 → len.toNatClampNeg ≤ 16384) (h34 : B 35 34 + 300 < 1000000) : MV B (wrY x off len B s).2 := by
  obtain ⟨k1, k2⟩ := KQ_hb (x := x) (off := off) (p3 := -1) h S hf
  refine ⟨?_, tQ_wr S P h.1 hf h34, ?_, HI_wr h S⟩
  · show KQ 290 B (up2 (hbY x off len (-1) (wrF B len) B).2 35 57 0)
    generalize (hbY x off len (-1) (wrF B len) B).2 = E at k1
    exact ⟨fun o a b c d f => by rw [up2_rown a, k1.1 o a b c d f], fun q a b c d => by rw [up2_j d, k1.2.1 q a b c d], by rw [up2_s]; exact Nat.zero_le _, by rw [up2_j (by decide)]; exact k1.2.2.2.1, by rw [up2_j (by decide)]; exact k1.2.2.2.2⟩
  · show KG B (up2 (hbY x off len (-1) (wrF B len) B).2 35 57 0)
    exact KG_t k2 KG_51
theorem MV_cl {x : Int32} (h : HI B) (S : SR bi w C B) (P : PH t w B) : MV B (clY x B s).2 := by
  have k : KQ 290 B (clY x B s).2 ∧ KG B (clY x B s).2 := by
    unfold clY
    cases ex : hdA B x with
    | none => exact ⟨KQ_le KQ_r (by omega), KG_r⟩
    | some n =>
      obtain ⟨n1, n2⟩ := hd_HO h.1 ex
      have b1 := (nd_k S.ok n1).2.1
      show KQ 290 B (mfA (up2 B 71 x.toNatClampNeg 0) n) ∧ KG B (mfA (up2 B 71 x.toNatClampNeg 0) n)
      have k0 : KQ 0 B (up2 B 71 x.toNatClampNeg 0) := ⟨fun o _ _ _ d _ => up2_rown d, fun q _ _ _ _ => up2_o (by decide), by rw [up2_o (by decide)]; exact Nat.le_refl _, by rw [up2_o (by decide)]; exact Nat.le_refl _, by rw [up2_o (by decide)]; exact Nat.le_refl _⟩
      have e1 : nd (up2 B 71 x.toNatClampNeg 0) n 1 = nd B n 1 := by
        unfold nd
        rw [up2_o (by decide)]
      exact ⟨KQ_le (KQ_t k0 (KQ_mf n1 (by rw [e1]; omega))) (by omega), KG_t (KG_e (up2_rown (by decide)) (up2_rown (by decide))) (KG_mf n1)⟩
  exact ⟨k.1, tQ_cl S P h.1, k.2, HI_cl h S⟩
end MVS
