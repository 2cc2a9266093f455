/-! ===== PURE: handles lead to files; what has no name is held: the other methods ===== -/
section HIO
variable {bi : Nat → Nat} {w : Nat → Nat × Nat} {C X A B E Y : tS} {t n m k d r i l v x s sz a e h : Nat} {me : Bool}
theorem ff_1064 (hs : nd A d 1 / 256 < 1064) : ffA A d / 8 < 1064 := by
  have := ff_le (A := A) (d := d)
  unfold eAll at this
  omega
theorem HI_mk (h : HI B) (S : SR bi w C B) (P : PH t w B) (ht : t < 1000) (hv : v = 1 ∨ v = 2 ∨ v = 3) (hl : v = 3 → B 64 1 ≤ 80) : HI (mkR B v s).2 := by
  have hw := HI_kw h (KWn_wa (v := 0) (s := s))
  unfold mkR
  split
  · exact hw
  · split
    · exact hw
    · split
      · exact hw
      · rename_i c0 cN ck
        have n64 : mkN B ≤ 0 + 64 := (sr_le _ 64 0).2
        obtain ⟨-, -, -, -, d, hy, d1, d2, -⟩ := pn_d S.ok c0
        rw [hy, Int.toNat_natCast]
        have n0 := mk_lt (A := B) (by omega)
        have nN : mkN B < 64 := by omega
        generalize mkN B = n at *
        obtain ⟨x1, x2, x3, x4, x5, x6, x7, x8⟩ := mkS_fx (A := wa1 B 0 s) (d := d) (v := v) nN (fun y => by rw [wa1_o B (by decide) (by decide)]; exact hl y)
        have dn : d ≠ n := fun y => by rw [y] at d2; omega
        have sz := (P.sf d d1 d2).1
        have e1 : nd (mkS (wa1 B 0 s) n d v) d 1 = nd B d 1 := by
          have : mkS (wa1 B 0 s) n d v 36 (d * 95 + 1) = _ := x1 _ (by omega)
          unfold nd
          rw [this, wa1_36]
        have kw := KWn_add (A := mkS (wa1 B 0 s) n d v) (d := d) (nm := wa1 B 0 s 67) (m := lsN B 0) (v := n) d1 (ff_1064 (by rw [e1]; omega))
        have oth : ∀ m i, m < 64 → i < 85 → m ≠ n → nd (mkS (wa1 B 0 s) n d v) m i = nd B m i := fun m i hm hi q => by
          have : mkS (wa1 B 0 s) n d v 36 (m * 95 + i) = _ := x1 _ (by omega)
          unfold nd
          rw [this, wa1_36]
        show HI (addA (mkS (wa1 B 0 s) n d v) d (wa1 B 0 s 67) (lsN B 0) n)
        refine HI_of (x := n) h ?_ (fun m hm q => ⟨by rw [(kw.1 m hm).1, oth m 0 hm (by omega) q], by rw [(kw.1 m hm).2, oth m 2 hm (by omega) q]⟩) (fun q _ _ => by have := HO_op h q; omega) (fun _ q z => ?_)
        · rw [kw.2, x7.1 71 (by decide) (by decide) (by omega), wa1_o B (by decide) (by decide)]
        · rw [(kw.1 n nN).1, x2] at q
          rw [(kw.1 n nN).2, x4 (by omega)] at z
          omega
theorem HI_ln (h : HI B) (S : SR bi w C B) (P : PH t w B) (ht : t < 1000) : HI (lnY B s).2 := by
  have hw := HI_kw h (KWn_wa (v := 0) (s := s))
  have h5 : HI (up2 B 35 51 s) := HI_kw h (KWn_e (up2_rown (by decide)) (up2_rown (by decide)))
  by_cases c : wtA B 1 false < 0
  · have : lnY B s = (wtA B 1 false, up2 B 35 51 s) := if_pos c
    rw [this]
    exact h5
  · obtain ⟨x, hx⟩ : ∃ x : Nat, wtA B 1 false = (x : Int) := ⟨(wtA B 1 false).toNat, by omega⟩
    by_cases c2 : nd B x 0 = 2
    · have : lnY B s = (-4, up2 B 35 51 s) := by
        unfold lnY
        rw [hx, Int.toNat_natCast, if_neg (by omega), if_pos c2]
      rw [this]
      exact h5
    · rw [lnY_R S.ok hx c2]
      obtain ⟨xl, x0, -⟩ := wt_us P hx
      split
      · exact hw
      · rename_i c0
        split
        · exact hw
        · split
          · exact hw
          · obtain ⟨-, -, -, -, d, hy, d1, d2, -⟩ := pn_d S.ok c0
            rw [hy, Int.toNat_natCast]
            have sz := (P.sf d d1 d2).1
            have e1 : nd (wa1 B 0 s) d 1 = nd B d 1 := by
              unfold nd
              rw [wa1_36]
            have kw := KWn_t (KWn_wa (v := 0) (s := s)) (KWn_add (A := wa1 B 0 s) (d := d) (nm := wa1 B 0 s 67) (m := lsN B 0) (v := x) d1 (ff_1064 (by rw [e1]; omega)))
            show HI (setN (addA (wa1 B 0 s) d (wa1 B 0 s 67) (lsN B 0) x) x 2 (nd (addA (wa1 B 0 s) d (wa1 B 0 s 67) (lsN B 0) x) x 2 + 1))
            generalize addA (wa1 B 0 s) d (wa1 B 0 s 67) (lsN B 0) x = Y at *
            have w2 : ∀ m i, m < 64 → i < 95 → ¬ (m = x ∧ i = 2) → nd (setN Y x 2 (nd Y x 2 + 1)) m i = nd Y m i := fun m i a b c => by
              unfold nd
              rw [sN_36, if_neg (by omega)]
            refine HI_of (x := x) h ?_ (fun m hm q => ⟨by rw [w2 m 0 hm (by omega) (by omega), (kw.1 m hm).1], by rw [w2 m 2 hm (by omega) (by omega), (kw.1 m hm).2]⟩) (fun _ _ q => by rw [w2 x 0 xl (by omega) (by omega), (kw.1 x xl).1]; exact q) (fun _ _ z => ?_)
            · rw [← kw.2]
              funext j
              exact setN_o (by decide) (by decide)
            · rw [nd_set] at z
              omega
theorem HI_tr {x y : Int32} (h : HI B) (S : SR bi w C B) : HI (trY x y B s).2 := by
  unfold trY
  cases ex : hdA B x with
  | none => exact h
  | some n =>
    obtain ⟨n1, n2⟩ := hd_HO h.1 ex
    have b1 := (nd_k S.ok n1).2.1
    show HI (if y < 0 then (-9, B) else if 272384 < y.toNatClampNeg then (-7, B) else (0, szA B n y.toNatClampNeg)).2
    split
    · exact h
    · split
      · exact h
      · exact HI_kw h (KWn_p (KP_sz n1 (by omega)))
theorem HI_by {p3 : Int32} (h : HI B) (S : SR bi w C B) (hn : n < 64) : HI (byZ n a l p3 B).2 := by
  have b1 := (nd_k S.ok hn).2.1
  rw [byZ_mr]
  by_cases c : 0 < mrV B n a l
  · rw [if_pos c]
    obtain ⟨g1, g2, g3⟩ := mrV_go c
    have e1 : KWn B (by1 n a l B) := by
      unfold by1
      split
      · exact KWn_r
      · exact KWn_p (KP_sz hn (by omega))
    refine HI_kw h (KWn_t (KWn_t e1 (KWn_p (KP_enL hn _ _ _ (by omega)))) (KWn_e (wbA_o (by decide) (by decide) _ _ _) (wbA_o (by decide) (by decide) _ _ _)))
  · rw [if_neg c]
    exact h
theorem HI_hb {x off len p3 : Int32} {fit : Bool} (h : HI B) (S : SR bi w C B) : HI (hbY x off len p3 fit B).2 := by
  unfold hbY
  cases ex : hdA B x with
  | none => exact h
  | some n =>
    obtain ⟨n1, n2⟩ := hd_HO h.1 ex
    show HI (if off < 0 ∨ len < 0 ∨ fit = false then (-9, B) else byZ n off.toNatClampNeg len.toNatClampNeg p3 B).2
    split
    · exact h
    · exact HI_by h S n1
theorem HI_wr {x off len : Int32} (h : HI B) (S : SR bi w C B) : HI (wrY x off len B s).2 := by
  show HI (up2 (hbY x off len (-1) (wrF B len) B).2 35 57 0)
  exact HI_kw (HI_hb (x := x) (off := off) (len := len) (p3 := -1) (fit := wrF B len) h S) (KWn_e (up2_rown (by decide)) (up2_rown (by decide)))
/-- a handle is given up -/
theorem HI_cl {x : Int32} (h : HI B) (S : SR bi w C B) : HI (clY x B s).2 := by
  unfold clY
  cases ex : hdA B x with
  | none => exact h
  | some n =>
    obtain ⟨n1, n2⟩ := hd_HO h.1 ex
    obtain ⟨y, y16, rfl, y1, y2, y3⟩ := hd_some ex
    show HI (mfA (up2 B 71 (nI y).toNatClampNeg 0) n)
    rw [y3]
    have b1 := (nd_k S.ok n1).2.1
    have yn : B 71 y = n + 1 := by omega
    have n36 : ∀ m i, nd (up2 B 71 y 0) m i = nd B m i := fun m i => by
      unfold nd
      rw [up2_o (by decide)]
    have gy : ∀ g, up2 B 71 y 0 71 g ≠ 0 → g ≠ y ∧ up2 B 71 y 0 71 g = B 71 g := fun g q => by
      have : g ≠ y := fun e => by
        rw [e, up2_s] at q
        exact q rfl
      exact ⟨this, up2_j this⟩
    have keep : ∀ m, m ≠ n → opA B m = true → opA (up2 B 71 y 0) m = true := fun m cm o => by
      obtain ⟨g, g1, g2⟩ := op_iff.mp o
      exact op_iff.mpr ⟨g, g1, by rw [up2_j (fun e => by rw [e, yn] at g2; omega)]; exact g2⟩
    unfold mfA
    by_cases c : 0 < nd (up2 B 71 y 0) n 2 ∨ opA (up2 B 71 y 0) n = true
    · rw [if_pos c]
      refine ⟨fun g hg q => ?_, fun m hm q z => ?_⟩
      · obtain ⟨q1, q2⟩ := gy g q
        rw [q2] at q ⊢
        rw [n36]
        exact h.1 g hg q
      · rw [n36] at z
        rw [n36] at q
        by_cases cm : m = n
        · rw [cm] at z ⊢
          rw [n36] at c
          rcases c with c | c
          · omega
          · exact c
        · exact keep m cm (h.2 m hm q z)
    · rw [if_neg c]
      have kp : KP (up2 B 71 y 0) (if nd (up2 B 71 y 0) n 0 = 1 then szA (up2 B 71 y 0) n 0 else up2 B 71 y 0) := by
        split
        · exact KP_sz n1 (by rw [n36]; omega)
        · exact KP_r
      generalize (if nd (up2 B 71 y 0) n 0 = 1 then szA (up2 B 71 y 0) n 0 else up2 B 71 y 0) = V at kp
      have kv := KWn_p kp
      have w2 : ∀ m i, m < 64 → i < 95 → ¬ (m = n ∧ i = 0) → nd (setN V n 0 0) m i = nd V m i := fun m i a b c => by
        unfold nd
        rw [sN_36, if_neg (by omega)]
      have z0 : nd (setN V n 0 0) n 0 = 0 := by
        unfold nd
        rw [sN_36, if_pos rfl]
      have r71 : setN V n 0 0 71 = up2 B 71 y 0 71 := by
        rw [← kv.2]
        funext j
        exact setN_o (by decide) (by decide)
      refine ⟨fun g hg q => ?_, fun m hm q z => ?_⟩
      · rw [r71] at q ⊢
        obtain ⟨q1, q2⟩ := gy g q
        have o : ¬ B 71 g - 1 = n := fun e => c (Or.inr (op_iff.mpr ⟨g, hg, by rw [q2] at q ⊢; omega⟩))
        rw [q2] at q ⊢
        obtain ⟨u1, u2⟩ := h.1 g hg q
        exact ⟨u1, by rw [w2 _ 0 u1 (by omega) (fun e => o e.1), (kv.1 _ u1).1, n36]; exact u2⟩
      · by_cases cm : m = n
        · rw [cm, z0] at q
          omega
        · rw [w2 m 0 hm (by omega) (fun e => cm e.1), (kv.1 m hm).1, n36] at q
          rw [w2 m 2 hm (by omega) (fun e => cm e.1), (kv.1 m hm).2, n36] at z
          rw [op_71 r71]
          exact keep m cm (h.2 m hm q z)
/-- a handle is given -/
theorem HI_op (h : HI B) (hn : n < 64) (hk : nd B n 0 = 1) (hy : B 71 k = 0) : HI (up2 B 71 k (n + 1)) := by
  have n36 : ∀ m i, nd (up2 B 71 k (n + 1)) m i = nd B m i := fun m i => by
    unfold nd
    rw [up2_o (by decide)]
  refine ⟨fun g hg q => ?_, fun m hm q z => ?_⟩
  · rw [n36]
    rw [up2_if] at q ⊢
    by_cases c : 71 = 71 ∧ g = k
    · rw [if_pos c]
      exact ⟨by omega, by rw [Nat.add_sub_cancel]; exact hk⟩
    · rw [if_neg c] at q ⊢
      exact h.1 g hg q
  · rw [n36] at q
    rw [n36] at z
    obtain ⟨g, g1, g2⟩ := op_iff.mp (h.2 m hm q z)
    refine op_iff.mpr ⟨g, g1, ?_⟩
    rw [up2_j (fun e => by rw [e] at g2; omega)]
    exact g2
end HIO
