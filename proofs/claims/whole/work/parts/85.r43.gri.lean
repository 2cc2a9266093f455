/-! ===== PURE: how much a call touches: rename, close, write, fill ===== -/
section GRI
variable {bi : Nat → Nat} {w : Nat → Nat × Nat} {C X A B E : tS} {t n m k d r s i lo hi lim sz l a v x q e : Nat} {me : Bool} {L L' R R' : List Nat}
theorem tQ_0 (h : tB [] [] A B) (g : tQ B E) : tQ A E := by
  obtain ⟨L, R, l, r, t⟩ := g
  exact ⟨[] ++ L, [] ++ R, l, r, tB_t h t⟩
theorem tB_rnP : ∃ L, L.length ≤ 1 ∧ tB L [] A (rnP A n e) := by
  unfold rnP
  split
  · exact ⟨_, Nat.le_refl _, tB_N⟩
  · exact ⟨[], Nat.zero_le _, tB_nil⟩
theorem tQ_rn2 (S : SR bi w C E) (P : PH t w E) (ht : t ≤ 63) (d1 : d < 64) (d2 : nd E d 0 = 2) (hk : k < eAll E d) (hx : eN E d k = n) (n1 : n < 64) (e1 : e < 64) (e2 : nd E e 0 = 2) (l1 : 1 ≤ E 35 53) (l28 : E 35 53 ≤ 28) {st : Nat} (ch : ∀ i, i < E 35 53 → C 31 (st + i) < 128) (h67 : ∀ i, i < E 35 53 → E 67 i = C 31 (st + i)) (h34 : E 35 34 + 10 < 1000000) : tQ E (rn2 d k n E e).2 := by
  have n0 := (P.di.2.1 d k d1 d2 hk (by omega)).1
  rw [hx] at n0
  have szd := (P.sf d d1 d2).1
  have sze := (P.sf e e1 e2).1
  unfold rn2
  split
  · exact tQ_e rfl rfl
  split
  · exact tQ_e rfl rfl
  rename_i hT hM
  have bwE : nd E n 0 = 2 → bwA E n 64 e = false := fun y => by
    cases cb : bwA E n 64 e with
    | false => rfl
    | true =>
      exfalso
      have z : rnM E n e (rnT E e) < 0 := by
        cases rnT E e with
        | none =>
          show mrN E n e < 0
          unfold mrN
          rw [if_pos y, cb, if_pos rfl]
          decide
        | some x =>
          show mrS E n e x < 0
          unfold mrS
          rw [if_pos y, cb, if_pos rfl]
          decide
      omega
  by_cases cG : kf E e < eAll E e
  · have eT : rnT E e = some (eN E e (kf E e)) := if_pos cG
    rw [eT] at hT hM ⊢
    obtain ⟨h0, h1, h2⟩ := fA_hit (A := E) (d := e) (nm := E 67) (l := E 35 53) S.ok cG
    have h0 : eN E e (kf E e) < 64 := h0
    have h1 : E 36 (ex E e (kf E e) 1) = E 35 53 := h1
    have h2 : ∀ j, j < E 35 53 → E 36 (ex E e (kf E e) (2 + j)) = E 67 j := h2
    generalize hx2 : eN E e (kf E e) = x at *
    have cx : x ≠ n := fun y => hT (by rw [y])
    have cm : ¬ mrS E n e x < 0 := hM
    have hkd : (nd E n 0 = 2 ∧ nd E x 0 = 2 ∧ nd E x 1 = 0) ∨ (nd E n 0 ≠ 2 ∧ nd E x 0 ≠ 2) := by
      unfold mrS at cm
      by_cases a : nd E n 0 = 2
      · rw [if_pos a, bwE a, if_neg (by decide)] at cm
        by_cases b : nd E x 0 = 2
        · rw [if_pos b] at cm
          by_cases c : 0 < nd E x 1
          · rw [if_pos c] at cm
            exact absurd (by decide) cm
          · exact Or.inl ⟨a, b, by omega⟩
        · rw [if_neg b] at cm
          exact absurd (by decide) cm
      · rw [if_neg a] at cm
        by_cases b : nd E x 0 = 2
        · rw [if_pos b] at cm
          exact absurd (by decide) cm
        · exact Or.inr ⟨a, b⟩
    obtain ⟨g1, g2, g3, g4, g5, g6, g7, g8⟩ := PH_rn1 (o := 31) (st := st) (l := E 35 53) (k2 := kf E e) (x := x) (n := n) (d := d) (k := k) (e := e) S P d1 d2 hk hx (by omega) e1 e2 cG hx2 (by omega) cx bwE hkd (by decide) l1 l28 ch h1 (fun j hj => by rw [h2 j hj, h67 j hj])
    have ad : add2 E e (kf E e) (fun i => C 31 (st + i)) (E 35 53) n = putE E e (kf E e) n := add2_id h1 (fun j hj => by rw [h2 j hj, h67 j hj])
    have fd := put_fx (nm := fun i => C 31 (st + i)) (l := E 35 53) (n := n) (e := e) (k2 := kf E e) (X := seE C e (kf E e) 31 st (E 35 53) n) S (by rw [ad]; exact g5) P.di P.tf e1 e2 cG n1 n0 l1 l28
    rw [ad] at fd
    obtain ⟨p3, p4, p5, p6, -⟩ := fd
    obtain ⟨r1, r2, r3, r4, r5, r6⟩ := rnP_fx g5 p3 p4 n1 (by rw [p6 n 0 n1 (by omega)]; exact n0) e1 (by rw [p6 e 0 e1 (by omega)]; exact e2)
    have kd : nd (rnP (putE E e (kf E e) n) n e) d 0 = 2 := by
      rw [r6 d 0 (by omega), if_neg (by omega), p6 d 0 d1 (by omega)]
      exact d2
    have ks : nd (rnP (putE E e (kf E e) n) n e) d 1 = nd E d 1 := by rw [r6 d 1 (by omega), if_neg (by omega), p6 d 1 d1 (by omega)]
    obtain ⟨L2, m2, t2⟩ := tB_rnP (A := putE E e (kf E e) n) (n := n) (e := e)
    obtain ⟨L3, R3, m3, q3, t3⟩ := tB_rem r1 (r3.1 d d1 kd).2.2 (by rw [ks]; omega) d1 kd g4
    have t1 := tB_pE (A := E) (d := e) (k := kf E e) (v := n)
    have base := tB_t t1 (tB_t t2 t3)
    show tQ E (if nd (remA (rnP (putE E e (kf E e) n) n e) d k) x 0 = 2 then setN (remA (rnP (putE E e (kf E e) n) n e) d k) x 0 0 else loA (remA (rnP (putE E e (kf E e) n) n e) d k) x)
    have xe := g3 x 0 h0 (by omega) (by omega)
    have x2e := g3 x 2 h0 (by omega) (by omega)
    have x0 := (P.di.2.1 e _ e1 e2 cG (by rw [hx2]; omega)).1
    rw [hx2] at x0
    have kb := (nd_k S.ok h0).1
    by_cases c2 : nd E x 0 = 2
    · rw [if_pos (by rw [xe]; exact c2)]
      refine ⟨_, _, ?_, ?_, tB_t base tB_N⟩
      · simp only [List.length_append, List.length_cons, List.length_nil]
        omega
      · simp only [List.length_append, List.length_nil]
        omega
    · rw [if_neg (by rw [xe]; exact c2)]
      obtain ⟨j0, j1, j2⟩ := g8 c2
      unfold loA
      rw [x2e]
      obtain ⟨L4, R4, m4, q4, t4⟩ := tB_mf j1 j2 h0 (by
        have : nd (setN (remA (rnP (putE E e (kf E e) n) n e) d k) x 2 (nd E x 2 - 1)) x 0 = nd (remA (rnP (putE E e (kf E e) n) n e) d k) x 0 := by
          unfold nd
          rw [sN_36, if_neg (by omega)]
        rw [this, xe]
        omega)
      refine ⟨_, _, ?_, ?_, tB_t base (tB_t tB_N t4)⟩
      · simp only [List.length_append, List.length_cons, List.length_nil]
        omega
      · simp only [List.length_append, List.length_nil]
        omega
  · have eT : rnT E e = none := if_neg cG
    rw [eT] at hT hM ⊢
    have hl0 : lkA E e = false := by
      cases hk2 : lkA E e with
      | false => rfl
      | true =>
        exfalso
        have z : mrN E n e < 0 := by
          unfold mrN lk0
          by_cases a : nd E n 0 = 2
          · rw [if_pos a, bwE a, hk2, if_neg (by decide), if_pos rfl]
            decide
          · rw [if_neg a, hk2, if_pos rfl]
            decide
        exact hM z
    obtain ⟨f1, f2⟩ := ff_t P e1 e2 (by omega)
    have hf := ob_lk S P (by omega) e1 e2 hl0
    obtain ⟨bi0, w0, g1, g2, g3, g4, g5, g6, g7⟩ := PH_rn0 (o := 31) (st := st) (l := E 35 53) (n := n) (d := d) (k := k) (e := e) S P (by omega) d1 d2 hk hx (by omega) e1 e2 bwE hf (by omega) (by unfold rwO; decide) l1 l28 ch
    obtain ⟨bi2, w2, a1, a2, a3, a4, a5, a6, a7, -⟩ := add_all (o := 31) (st := st) (l := E 35 53) (v := n) S P.tf P.di e1 e2 f1 hf (by omega) (by unfold rwO; decide) l1 l28 ch n1 n0
    have ec : addA E e (fun i => C 31 (st + i)) (E 35 53) n = addA E e (E 67) (E 35 53) n := addA_cg (fun j hj => (h67 j hj).symm)
    rw [ec] at g5 g6 g7 a1 a3 a4 a6 a7
    obtain ⟨r1, r2, r3, r4, r5, r6⟩ := rnP_fx a1 a3 a4 n1 (by rw [a6 n 0 n1 (by omega) (by omega)]; exact n0) e1 (by rw [a6 e 0 e1 (by omega) (by omega)]; exact e2)
    have kd : nd (rnP (addA E e (E 67) (E 35 53) n) n e) d 0 = 2 := by
      rw [r6 d 0 (by omega), if_neg (by omega), a6 d 0 d1 (by omega) (by omega)]
      exact d2
    have ks : nd (rnP (addA E e (E 67) (E 35 53) n) n e) d 1 ≤ 256 * 64 := by
      rw [r6 d 1 (by omega), if_neg (by omega)]
      by_cases c : d = e
      · subst c
        omega
      · rw [a6 d 1 d1 (by omega) (fun y => c y.1)]
        omega
    obtain ⟨L1, m1, t1⟩ := tB_add (A := E) (d := e) (nm := E 67) (m := E 35 53) (v := n)
    obtain ⟨L2, m2, t2⟩ := tB_rnP (A := addA E e (E 67) (E 35 53) n) (n := n) (e := e)
    obtain ⟨L3, R3, m3, q3, t3⟩ := tB_rem r1 (r3.1 d d1 kd).2.2 (by omega) d1 kd g5
    show tQ E (remA (rnP (addA E e (E 67) (E 35 53) n) n e) d k)
    refine ⟨_, _, ?_, ?_, tB_t t1 (tB_t t2 t3)⟩
    · simp only [List.length_append]
      omega
    · simp only [List.length_append, List.length_nil]
      omega
theorem tQ_rn (S : SR bi w C B) (P : PH t w B) (T : TP C B) (hP : patOk B) (ht : t ≤ 63) (h34 : B 35 34 + 10 < 1000000) : tQ B (hdX B 0 s rnG).2 := by
  obtain ⟨a1, a2, a3⟩ := wa_bd (w := 0) S.ok
  obtain ⟨m1, m2, m3⟩ := wa_bd (w := 1) S.ok
  have w1 := tB_wa (B := B) (v := 0) (s := s)
  have wE : waA (wa1 B 0 s) 1 = waA B 1 ∧ lsN (wa1 B 0 s) 1 = lsN B 1 ∧ lsF (wa1 B 0 s) 1 = lsF B 1 := wa_cg (wa1_36 B) (wa1_o B (by decide) (by decide)) (wa1_o B (by decide) (by decide))
  unfold hdX
  split
  · exact tQ_wa
  split
  · exact tQ_wa
  rename_i c1 c2
  have d1 : (waA B 0).toNat < 64 := by omega
  have d2 := a3 (by omega)
  generalize (waA B 0).toNat = d at *
  unfold rnG
  split
  · exact tQ_wa
  rename_i hk
  refine tQ_0 w1 ?_
  rw [wa1_51]
  unfold hdX
  rw [wE.1, wE.2.1]
  split
  · exact tQ_wa
  split
  · exact tQ_wa
  rename_i c3 c4
  have w2 := tB_wa (B := wa1 B 0 s) (v := 1) (s := s)
  refine tQ_0 w2 ?_
  have e1 : (waA B 1).toNat < 64 := by omega
  have e2 := m3 (by omega)
  have lw1 := wa_ls (A := B) (v := 1) (by omega)
  have le := ls_le B 1
  have pl := (hP 1 (by omega)).1
  have hk' : kf (wa1 B 0 s) d < eAll B d := by
    rw [(kf_wa (A := B) (v := 0) (s := s) (d := d)).2] at hk
    omega
  have n1 : eN B d (kf (wa1 B 0 s) d) < 64 := by
    rw [(kf_wa (A := B) (v := 0) (s := s) (d := d)).1] at hk' ⊢
    exact eN_f S.ok (by omega)
  have eNw : eN (wa1 B 0 s) d (kf (wa1 B 0 s) d) = eN B d (kf (wa1 B 0 s) d) := by
    unfold eN ex hasA leafA pt nd
    rw [wa1_36]
  rw [eNw]
  have hE : sC B (wa1 (wa1 B 0 s) 1 s) := sC_t sC_wa sC_wa
  have h53 : wa1 (wa1 B 0 s) 1 s 35 53 = lsN B 1 := by rw [wa1_53, wE.2.1]
  have c31 : ∀ j, C 31 j = B 63 j := T.2.2.2.2.2.2
  have h67 : ∀ i, i < lsN B 1 → wa1 (wa1 B 0 s) 1 s 67 i = C 31 (lsF B 1 + i) := fun i hi => by
    rw [wa1_67 _ (by rw [wE.2.1]; exact hi), wE.2.2, c31]
    show wa1 B 0 s 63 (lsF B 1 + i) = _
    rw [wa1_o B (by decide) (by decide)]
  generalize (waA B 1).toNat = e at *
  generalize kf (wa1 B 0 s) d = k at *
  generalize wa1 (wa1 B 0 s) 1 s = E at *
  have E36 : E 36 = B 36 := hE.1 36 (by omega)
  have nds : ∀ a i, nd E a i = nd B a i := fun a i => by
    unfold nd
    rw [E36]
  have eNs : ∀ a i, eN E a i = eN B a i := fun a i => by
    unfold eN ex hasA leafA pt nd
    rw [E36]
  have S1 : SR bi w C E := SR_oth S (fun _ _ _ => rfl) (fun o ho => hE.1 o (by omega)) (fun q hq => hE.2 q (by omega) (by omega) (by omega))
  have P1 : PH t w E := PH_good t w B E E36 (hE.2 7 (by decide) (by decide) (by decide)) P
  refine tQ_rn2 (st := lsF B 1) S1 P1 ht d1 (by rw [nds]; exact d2) (by unfold eAll; rw [nds]; exact hk') (eNs d k) n1 e1 (by rw [nds]; exact e2) (by rw [h53]; exact lw1) (by rw [h53]; omega) (fun i hi => ?_) (fun i hi => h67 i (by rw [← h53]; exact hi)) (by rw [hE.2 34 (by decide) (by decide) (by decide)]; exact h34)
  rw [c31]
  rw [h53] at hi
  have : B 63 (lsF B 1 + i) ≤ 126 := ((hP 1 (by omega)).2 (lsF B 1 + i) (by omega)).2
  omega
theorem tQ_cl {x : Int32} (S : SR bi w C B) (P : PH t w B) (hH : HO B) : tQ B (clY x B s).2 := by
  unfold clY
  cases ex : hdA B x with
  | none => exact tQ_e rfl rfl
  | some n =>
    obtain ⟨n1, n2⟩ := hd_HO hH ex
    show tQ B (mfA (up2 B 71 x.toNatClampNeg 0) n)
    refine tQ_0 (tB_e (up2_rown (by decide)) (up2_rown (by decide)) : tB [] [] B (up2 B 71 x.toNatClampNeg 0)) ?_
    obtain ⟨L, R, l, r, t⟩ := tB_mf (SR_hdl (h := x.toNatClampNeg) (v := 0) S) (PH_good _ w B _ (up2_rown (by decide)) (up2_o (by decide)) P) n1 (Or.inl (by
      unfold nd
      rw [up2_o (by decide)]
      exact n2))
    exact ⟨L, R, by omega, by omega, t⟩
theorem tQ_hb {x off len p3 : Int32} {fit : Bool} (S : SR bi w C B) (P : PH t w B) (hH : HO B) (hf : fit = true → ¬ len < 0 → len.toNatClampNeg ≤ 16384) (h34 : B 35 34 + 300 < 1000000) : tQ B (hbY x off len p3 fit B).2 := by
  unfold hbY
  cases ex : hdA B x with
  | none => exact tQ_e rfl rfl
  | some n =>
    obtain ⟨n1, n2⟩ := hd_HO hH ex
    show tQ B (if off < 0 ∨ len < 0 ∨ fit = false then (-9, B) else byZ n off.toNatClampNeg len.toNatClampNeg p3 B).2
    by_cases c : off < 0 ∨ len < 0 ∨ fit = false
    · rw [if_pos c]
      exact tQ_e rfl rfl
    · rw [if_neg c]
      exact tQ_by S P n1 n2 (hf (by cases fit with | true => rfl | false => exact absurd (Or.inr (Or.inr rfl)) c) (fun y => c (Or.inr (Or.inl y)))) h34
theorem tQ_wr {x off len : Int32} (S : SR bi w C B) (P : PH t w B) (hH : HO B) (hf : wrF B len = true → ¬ len < 0 → len.toNatClampNeg ≤ 16384) (h34 : B 35 34 + 300 < 1000000) : tQ B (wrY x off len B s).2 := by
  obtain ⟨L, R, l, r, t⟩ := tQ_hb (x := x) (off := off) (p3 := -1) S P hH hf h34
  show tQ B (up2 (hbY x off len (-1) (wrF B len) B).2 35 57 0)
  exact ⟨L ++ [], R ++ [], by rw [List.append_nil]; exact l, by rw [List.append_nil]; exact r, tB_t t (tB_e (up2_rown (by decide)) (up2_rown (by decide)))⟩
end GRI
