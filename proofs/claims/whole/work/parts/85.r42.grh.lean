/-! ===== PURE: how much a call touches: the methods ===== -/
section GRH
variable {bi : Nat → Nat} {w : Nat → Nat × Nat} {C X A B E : tS} {t n m k d r s i lo hi lim sz l a v x q e : Nat} {me : Bool} {L L' R R' : List Nat}
/-- what a call may touch -/
def tQ (A B : tS) : Prop := ∃ L R, L.length ≤ 18 ∧ R.length ≤ 200 ∧ tB L R A B
theorem tQ_gs (h : tQ A B) : gsA B ≤ gsA A + 20 := by
  obtain ⟨L, R, l, r, t⟩ := h
  exact Nat.le_trans (tB_gs t (by omega)) (Nat.add_le_add_left (by omega) _)
theorem tQ_e (h51 : B 51 = A 51) (h52 : B 52 = A 52) : tQ A B := ⟨[], [], Nat.zero_le _, Nat.zero_le _, tB_e h51 h52⟩
theorem tB_wa : tB [] [] B (wa1 B v s) := tB_e (wa1_o B (by decide) (by decide)) (wa1_o B (by decide) (by decide))
theorem tQ_wa : tQ B (wa1 B v s) := tQ_e (wa1_o B (by decide) (by decide)) (wa1_o B (by decide) (by decide))
theorem tQ_mk : tQ B (mkR B v s).2 := by
  unfold mkR
  split
  · exact tQ_wa
  · split
    · exact tQ_wa
    · split
      · exact tQ_wa
      · obtain ⟨L, l, t⟩ := tB_add (A := mkS (wa1 B 0 s) (mkN B) (pnA B).toNat v) (d := (pnA B).toNat) (nm := wa1 B 0 s 67) (m := lsN B 0) (v := mkN B)
        refine ⟨[] ++ ([2 + mkN B / 2] ++ L), [] ++ ([] ++ []), ?_, Nat.zero_le _, tB_t tB_wa (tB_t tB_mkS t)⟩
        rw [List.nil_append, List.length_append]
        show 1 + L.length ≤ 18
        omega
theorem tQ_ln (ho : okT B) : tQ B (lnY B s).2 := by
  have e51 : tQ B (up2 B 35 51 s) := tQ_e (up2_rown (by decide)) (up2_rown (by decide))
  by_cases c : wtA B 1 false < 0
  · have : lnY B s = (wtA B 1 false, up2 B 35 51 s) := if_pos c
    rw [this]
    exact e51
  · obtain ⟨x, hx⟩ : ∃ x : Nat, wtA B 1 false = (x : Int) := ⟨(wtA B 1 false).toNat, by omega⟩
    by_cases c2 : nd B x 0 = 2
    · have : lnY B s = (-4, up2 B 35 51 s) := by
        unfold lnY
        rw [hx, Int.toNat_natCast, if_neg (by omega), if_pos c2]
      rw [this]
      exact e51
    · rw [lnY_R ho hx c2]
      split
      · exact tQ_wa
      · split
        · exact tQ_wa
        · split
          · exact tQ_wa
          · obtain ⟨L, l, t⟩ := tB_add (A := wa1 B 0 s) (d := (pnA B).toNat) (nm := wa1 B 0 s 67) (m := lsN B 0) (v := x)
            refine ⟨[] ++ (L ++ [2 + x / 2]), [] ++ ([] ++ []), ?_, Nat.zero_le _, tB_t tB_wa (tB_t t tB_N)⟩
            rw [List.nil_append, List.length_append]
            show L.length + 1 ≤ 18
            omega
/-- a node is freed if it may be -/
theorem tB_mf (S : SR bi w C A) (P : PH t w A) (hn : n < 64) (hk : nd A n 0 = 1 ∨ nd A n 0 = 3) : ∃ L R, L.length ≤ 6 ∧ R.length ≤ 34 ∧ tB L R A (mfA A n) := by
  unfold mfA
  split
  · exact ⟨[], [], Nat.zero_le _, Nat.zero_le _, tB_nil⟩
  · split
    · rename_i h1
      refine ⟨_, _, ?_, ?_, tB_t (tB_sz (sz := 0) S P hn h1 (by omega)) tB_N⟩
      · exact Nat.le_refl 6
      · unfold bks tbl
        rw [List.append_nil, List.length_map, List.length_cons, List.length_cons, List.length_map, List.length_range]
        exact Nat.le_refl _
    · exact ⟨[2 + n / 2], [], (show 1 ≤ 6 by decide), Nat.zero_le _, tB_N⟩
theorem tQ_tr {x y : Int32} (S : SR bi w C B) (P : PH t w B) (hH : HO B) : tQ B (trY x y B s).2 := by
  unfold trY
  cases ex : hdA B x with
  | none => exact tQ_e rfl rfl
  | some n =>
    obtain ⟨n1, n2⟩ := hd_HO hH ex
    show tQ B (if y < 0 then (-9, B) else if 272384 < y.toNatClampNeg then (-7, B) else (0, szA B n y.toNatClampNeg)).2
    split
    · exact tQ_e rfl rfl
    · split
      · exact tQ_e rfl rfl
      · refine ⟨_, _, ?_, ?_, tB_sz S P n1 n2 (by omega)⟩
        · exact (by decide : 5 ≤ 18)
        · unfold bks tbl
          rw [List.length_map, List.length_cons, List.length_cons, List.length_map, List.length_range]
          omega
theorem tQ_by {p3 : Int32} (S : SR bi w C B) (P : PH t w B) (hn : n < 64) (n2 : nd B n 0 = 1) (hl2 : l ≤ 16384) (h34 : B 35 34 + 300 < 1000000) : tQ B (byZ n a l p3 B).2 := by
  rw [byZ_mr]
  by_cases c : 0 < mrV B n a l
  · rw [if_pos c]
    obtain ⟨g1, g2, g3⟩ := mrV_go c
    obtain ⟨L, R, l1, r1, t⟩ := tB_by2 S P hn n2 g1 g2 hl2 g3 h34
    refine ⟨L ++ [], R ++ [], by rw [List.append_nil]; omega, by rw [List.append_nil]; omega, tB_t t (tB_e (wbA_o (by decide) (by decide) _ _ _) (wbA_o (by decide) (by decide) _ _ _))⟩
  · rw [if_neg c]
    exact tQ_e rfl rfl
/-- an entry goes, and what it named -/
theorem tQ_ul (S : SR bi w C B) (P : PH t w B) (ht : t ≤ 64) : tQ B (hdX B 0 s ulG).2 := by
  obtain ⟨a1, a2, a3⟩ := wa_bd (w := 0) S.ok
  unfold hdX
  split
  · exact tQ_wa
  · split
    · exact tQ_wa
    · rename_i c1 c2
      have d1 : (waA B 0).toNat < 64 := by omega
      have d2 := a3 (by omega)
      generalize (waA B 0).toNat = d at *
      have S1 : SR bi w C (wa1 B 0 s) := SR_oth S (fun _ _ _ => rfl) (fun o ho => wa1_o B (by omega) (by omega)) (fun q hq => by
        unfold wa1
        rw [up2_j (by omega), cp67_o (by decide), up2_j (by omega)])
      have P1 : PH t w (wa1 B 0 s) := PH_good t w B _ (wa1_36 B) (wa1_7 B) P
      have w1 := tB_wa (B := B) (v := 0) (s := s)
      have d2' : nd (wa1 B 0 s) d 0 = 2 := by
        unfold nd
        rw [wa1_36]
        exact d2
      generalize wa1 B 0 s = A at *
      unfold ulG
      split
      · exact ⟨[], [], Nat.zero_le _, Nat.zero_le _, w1⟩
      · split
        · exact ⟨[], [], Nat.zero_le _, Nat.zero_le _, w1⟩
        · rename_i hk hk2
          have hk : kf A d < eAll A d := by omega
          have n1 : eN A d (kf A d) < 64 := eN_f S1.ok (by unfold kf at hk; omega)
          have n0 := (P1.di.2.1 d _ d1 d2' hk (by omega)).1
          have kb := (nd_k S1.ok n1).1
          have sz := (P1.sf d d1 d2').1
          obtain ⟨f1, f2, f3, ⟨f4, f5, f6⟩, f7⟩ := PH_unl (k := kf A d) (x := eN A d (kf A d)) S1 P1 d1 d2' hk rfl (by omega) (by omega)
          obtain ⟨L1, R1, l1, r1, t1⟩ := tB_rem S1 (P1.di.1 d d1 d2').2.2 (by omega) d1 d2' hk
          show tQ B (loA (remA A d (kf A d)) (eN A d (kf A d)))
          unfold loA
          rw [f4]
          generalize eN A d (kf A d) = x at *
          generalize remA A d (kf A d) = Y at *
          have k0 : nd (setN Y x 2 (nd A x 2 - 1)) x 0 = nd A x 0 := by
            unfold nd at f5 ⊢
            rw [sN_36, if_neg (by omega)]
            exact f5
          obtain ⟨L2, R2, l2, r2, t2⟩ := tB_mf f1 f2 n1 (by rw [k0]; omega)
          refine ⟨[] ++ (L1 ++ ([2 + x / 2] ++ L2)), [] ++ (R1 ++ ([] ++ R2)), ?_, ?_, tB_t w1 (tB_t t1 (tB_t tB_N t2))⟩
          · rw [List.nil_append, List.length_append, List.length_append]
            show L1.length + (1 + L2.length) ≤ 18
            omega
          · rw [List.nil_append, List.nil_append, List.length_append]
            omega
theorem tQ_rd (S : SR bi w C B) (P : PH t w B) (ht : t ≤ 64) : tQ B (hdX B 0 s rdG).2 := by
  obtain ⟨a1, a2, a3⟩ := wa_bd (w := 0) S.ok
  unfold hdX
  split
  · exact tQ_wa
  · split
    · exact tQ_wa
    · rename_i c1 c2
      have d1 : (waA B 0).toNat < 64 := by omega
      have d2 := a3 (by omega)
      generalize (waA B 0).toNat = d at *
      have S1 : SR bi w C (wa1 B 0 s) := SR_oth S (fun _ _ _ => rfl) (fun o ho => wa1_o B (by omega) (by omega)) (fun q hq => by
        unfold wa1
        rw [up2_j (by omega), cp67_o (by decide), up2_j (by omega)])
      have P1 : PH t w (wa1 B 0 s) := PH_good t w B _ (wa1_36 B) (wa1_7 B) P
      have w1 := tB_wa (B := B) (v := 0) (s := s)
      have d2' : nd (wa1 B 0 s) d 0 = 2 := by
        unfold nd
        rw [wa1_36]
        exact d2
      generalize wa1 B 0 s = A at *
      unfold rdG
      split
      · exact ⟨[], [], Nat.zero_le _, Nat.zero_le _, w1⟩
      · split
        · exact ⟨[], [], Nat.zero_le _, Nat.zero_le _, w1⟩
        · split
          · exact ⟨[], [], Nat.zero_le _, Nat.zero_le _, w1⟩
          · rename_i hk hk2 hk3
            have hk : kf A d < eAll A d := by omega
            have sz := (P1.sf d d1 d2').1
            obtain ⟨L1, R1, l1, r1, t1⟩ := tB_rem S1 (P1.di.1 d d1 d2').2.2 (by omega) d1 d2' hk
            show tQ B (setN (remA A d (kf A d)) (eN A d (kf A d)) 0 0)
            refine ⟨[] ++ (L1 ++ [2 + eN A d (kf A d) / 2]), [] ++ (R1 ++ []), ?_, ?_, tB_t w1 (tB_t t1 tB_N)⟩
            · rw [List.nil_append, List.length_append]
              show L1.length + 1 ≤ 18
              omega
            · rw [List.nil_append, List.append_nil]
              omega
end GRH
