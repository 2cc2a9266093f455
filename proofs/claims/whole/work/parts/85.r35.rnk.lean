/-! ===== PURE: what the reference asks for: rename ===== -/
section RNK
variable {bi : Nat → Nat} {w w' : Nat → Nat × Nat} {C X A B E : tS} {t n m k d r x i a l v e G : Nat}
theorem get_34 {me : Bool} : getA A r me 35 34 = A 35 34 + 1 := by
  unfold getA
  rw [up2_o (by decide), fl_row (by decide)]
  cases me with
  | true => rw [cond_true, up2_o (by decide), up2_o (by decide), up2_o (by decide), up2_o (by decide), up2_s]
  | false => rw [cond_false, up2_o (by decide), up2_o (by decide), up2_o (by decide), up2_s]
theorem ens_34 : ensA A n i 35 34 ≤ A 35 34 + 4 := by
  have aN : ∀ (Y : tS) q me, attN Y n q me 35 34 = Y 35 34 + 1 := fun Y q me => by
    unfold attN
    rw [setN_o (by decide) (by decide), get_34]
  have aP : ∀ (Y : tS) a b me, attP Y a b me 35 34 = Y 35 34 + 1 := fun Y a b me => by
    unfold attP setP
    rw [up2_o (by decide), up2_o (by decide), get_34]
  have e1 : ∀ Y : tS, ens1 Y n i 35 34 ≤ Y 35 34 + 1 := fun Y => by
    unfold ens1
    split
    · rw [aN]
      exact Nat.le_refl _
    · omega
  have e2 : ∀ Y : tS, ens2 Y n i 35 34 ≤ Y 35 34 + 1 := fun Y => by
    unfold ens2
    split
    · rw [aN]
      exact Nat.le_refl _
    · omega
  have e3 : ∀ Y : tS, ens3 Y n i 35 34 ≤ Y 35 34 + 1 := fun Y => by
    unfold ens3
    split
    · rw [aP]
      exact Nat.le_refl _
    · omega
  have e4 : ∀ Y : tS, ens4 Y n i 35 34 ≤ Y 35 34 + 1 := fun Y => by
    unfold ens4
    split
    · rw [aN]
      exact Nat.le_refl _
    · rw [aP]
      exact Nat.le_refl _
  unfold ensA
  split
  · omega
  · have a1 := e1 (up2 A 50 n 1)
    have a2 := e2 (ens1 (up2 A 50 n 1) n i)
    have a3 := e3 (ens2 (ens1 (up2 A 50 n 1) n i) n i)
    have a4 := e4 (ens3 (ens2 (ens1 (up2 A 50 n 1) n i) n i) n i)
    rw [show up2 A 50 n 1 35 34 = A 35 34 from up2_o (by decide)] at a1
    omega
theorem nmL_o {nm : Nat → Nat} {p : Nat} (hp : p ≠ 36) : ∀ m i (A : tS), nmL d k nm m i A p = A p
  | 0, _, _ => rfl
  | m + 1, i, A => by
    show nmL d k nm m (i + 1) (up2 A 36 (ex A d k (2 + i)) (nm i)) p = _
    rw [nmL_o hp m, up2_rown hp]
theorem add_34 {nm : Nat → Nat} : addA A d nm m v 35 34 ≤ A 35 34 + 4 := by
  have e : addA A d nm m v 35 34 = add1 A d 35 34 := by
    unfold addA add2 putE
    rw [up2_o (by decide), up2_o (by decide), nmL_o (by decide), up2_o (by decide)]
  rw [e]
  unfold add1
  split
  · rw [setN_o (by decide) (by decide)]
    exact ens_34
  · omega
theorem re_ok2 (S : SR bi w C A) (z3 : ∀ i, i < nd A d 1 / 256 → hasA A d i ≠ 0) (sz : nd A d 1 / 256 ≤ 64) (hd : d < 64) (h2 : nd A d 0 = 2) (hk : k < eAll A d) (h34 : A 35 34 < 1000000) : reOk A d k := by
  obtain ⟨l1, l2⟩ := eA_lt S.ok hd hk
  have b1 := (nd_k S.ok hd).2.1
  obtain ⟨r, hr⟩ : ∃ r, hasA A d (k / 8) = r + 1 := ⟨hasA A d (k / 8) - 1, by have := z3 _ l1; omega⟩
  obtain ⟨g1, g2, g3, g4, g5⟩ := SR_clr S hd h2 l2 hr
  have e1 : nd (putE A d k 64) d 1 = nd A d 1 := g3 d 1 hd (by omega)
  refine ⟨okS_of S h34, by omega, ?_⟩
  rw [e1]
  refine rem_ok hd _ _ _ g1 (by rw [g3 d 0 hd (by omega)]; exact h2) (by omega) (fun i hi => ?_) (by rw [g5 35 (by decide) (by decide)]; exact h34)
  rw [← hs_slo (by omega), g4 d i hd (Or.inl (by omega)), hs_slo (by omega)]
  exact z3 i hi
/-- dirOk, where the form holds -/
theorem dir_ok (hD : DI w A) (hd : d < 64) (h2 : nd A d 0 = 2) (sz : nd A d 1 / 256 < 1064) : dirOk A d := ⟨hd, sz, (hD.1 d hd h2).2.2⟩
theorem rn2_ok (S : SR bi w C E) (P : PH t w E) (ht : t ≤ 63) (d1 : d < 64) (d2 : nd E d 0 = 2) (hk : k < eAll E d) (hx : eN E d k = n) (n1 : n < 64) (e1 : e < 64) (e2 : nd E e 0 = 2) (l1 : 1 ≤ E 35 53) (l28 : E 35 53 ≤ 28) {st : Nat} (ch : ∀ i, i < E 35 53 → C 31 (st + i) < 128) (h67 : ∀ i, i < E 35 53 → E 67 i = C 31 (st + i)) (h34 : E 35 34 + 10 < 1000000) : rn2Ok d k n E e := by
  have n0 := (P.di.2.1 d k d1 d2 hk (by omega)).1
  rw [hx] at n0
  have szd := (P.sf d d1 d2).1
  obtain ⟨z, z1, z2⟩ := it_near P.nf e1 e2
  refine ⟨fun _ => bw_ok (P := fun m => nd E m 3) (fun _ => rfl) z 64 e z2 (by omega), S.zm.1.2.2.2.1, fun hT hM => ?_⟩
  have bwE : nd E n 0 = 2 → bwA E n 64 e = false := fun y => by
    cases cb : bwA E n 64 e with
    | false => rfl
    | true =>
      exfalso
      have z : rnM E n e (rnT E e) < 0 := by
        cases rnT E e with
        | none =>
          show mrN E n e < 0
          unfold mrN
          rw [if_pos y, cb, if_pos rfl]
          decide
        | some x =>
          show mrS E n e x < 0
          unfold mrS
          rw [if_pos y, cb, if_pos rfl]
          decide
      omega
  have okE := okS_of S (by omega)
  by_cases cG : kf E e < eAll E e
  · have eT : rnT E e = some (eN E e (kf E e)) := if_pos cG
    rw [eT] at hT hM ⊢
    obtain ⟨h0, h1, h2⟩ := fA_hit (A := E) (d := e) (nm := E 67) (l := E 35 53) S.ok cG
    have h0 : eN E e (kf E e) < 64 := h0
    have h1 : E 36 (ex E e (kf E e) 1) = E 35 53 := h1
    have h2 : ∀ j, j < E 35 53 → E 36 (ex E e (kf E e) (2 + j)) = E 67 j := h2
    generalize hx2 : eN E e (kf E e) = x at *
    have cx : x ≠ n := fun y => hT (by rw [y])
    have cm : ¬ mrS E n e x < 0 := fun y => by
      have : rnM E n e (some x) = mrS E n e x := rfl
      omega
    have hkd : (nd E n 0 = 2 ∧ nd E x 0 = 2 ∧ nd E x 1 = 0) ∨ (nd E n 0 ≠ 2 ∧ nd E x 0 ≠ 2) := by
      unfold mrS at cm
      by_cases a : nd E n 0 = 2
      · rw [if_pos a, bwE a, if_neg (by decide)] at cm
        by_cases b : nd E x 0 = 2
        · rw [if_pos b] at cm
          by_cases c : 0 < nd E x 1
          · rw [if_pos c] at cm
            exact absurd (by decide) cm
          · exact Or.inl ⟨a, b, by omega⟩
        · rw [if_neg b] at cm
          exact absurd (by decide) cm
      · rw [if_neg a] at cm
        by_cases b : nd E x 0 = 2
        · rw [if_pos b] at cm
          exact absurd (by decide) cm
        · exact Or.inr ⟨a, b⟩
    obtain ⟨g1, g2, g3, g4, g5, g6, g7, g8⟩ := PH_rn1 (o := 31) (st := st) (l := E 35 53) (k2 := kf E e) (x := x) (n := n) (d := d) (k := k) (e := e) S P d1 d2 hk hx (by omega) e1 e2 cG hx2 (by omega) cx bwE hkd (by decide) l1 l28 ch h1 (fun j hj => by rw [h2 j hj, h67 j hj])
    have ad : add2 E e (kf E e) (fun i => C 31 (st + i)) (E 35 53) n = putE E e (kf E e) n := add2_id h1 (fun j hj => by rw [h2 j hj, h67 j hj])
    have fd := put_fx (nm := fun i => C 31 (st + i)) (l := E 35 53) (n := n) (e := e) (k2 := kf E e) (X := seE C e (kf E e) 31 st (E 35 53) n) S (by rw [ad]; exact g5) P.di P.tf e1 e2 cG n1 n0 l1 l28
    rw [ad] at fd
    obtain ⟨p3, p4, p5, p6, -⟩ := fd
    obtain ⟨r1, r2, r3, r4, r5, r6⟩ := rnP_fx g5 p3 p4 n1 (by rw [p6 n 0 n1 (by omega)]; exact n0) e1 (by rw [p6 e 0 e1 (by omega)]; exact e2)
    have kd : nd (rnP (putE E e (kf E e) n) n e) d 0 = 2 := by
      rw [r6 d 0 (by omega), if_neg (by omega), p6 d 0 d1 (by omega)]
      exact d2
    have ks : nd (rnP (putE E e (kf E e) n) n e) d 1 = nd E d 1 := by rw [r6 d 1 (by omega), if_neg (by omega), p6 d 1 d1 (by omega)]
    have q34 : rnP (putE E e (kf E e) n) n e 35 34 = E 35 34 := by
      unfold rnP
      split
      · rw [setN_o (by decide) (by decide)]
        unfold putE
        rw [up2_o (by decide), up2_o (by decide)]
      · unfold putE
        rw [up2_o (by decide), up2_o (by decide)]
    have x0 := (P.di.2.1 e _ e1 e2 cG (by rw [hx2]; omega)).1
    rw [hx2] at x0
    refine ⟨fun y => (by cases y), okE, ?_⟩
    show rnEok (rnP (putE E e (kf E e) n) n e) d k (some x)
    refine ⟨dir_ok r3 d1 kd (by rw [ks]; omega), g4, re_ok2 r1 (r3.1 d d1 kd).2.2 (by rw [ks]; omega) d1 kd g4 (by rw [q34]; omega), fun y hy => ?_⟩
    have hy : x = y := by injection hy
    subst hy
    refine ⟨h0, fun c2 => ?_⟩
    have xe := g3 x 0 h0 (by omega) (by omega)
    have x2e := g3 x 2 h0 (by omega) (by omega)
    obtain ⟨j0, j1, -⟩ := g8 (by rw [← xe]; exact c2)
    refine lo_ok g1 (X := _) (by rw [x2e]; exact j1) (by rw [x2e]; exact j0) h0 ?_
    rw [(SR_rem r1 r3 d1 kd g4).2.2.1 34, q34]
    omega
  · have eT : rnT E e = none := if_neg cG
    rw [eT] at hT hM ⊢
    have hl0 : lkA E e = false := by
      cases hk2 : lkA E e with
      | false => rfl
      | true =>
        exfalso
        have z : mrN E n e < 0 := by
          unfold mrN lk0
          by_cases a : nd E n 0 = 2
          · rw [if_pos a, bwE a, hk2, if_neg (by decide), if_pos rfl]
            decide
          · rw [if_neg a, hk2, if_pos rfl]
            decide
        have : rnM E n e none = mrN E n e := rfl
        omega
    obtain ⟨f1, f2⟩ := ff_t P e1 e2 (by omega)
    have hf := ob_lk S P (by omega) e1 e2 hl0
    refine ⟨fun _ => ae_of S P (by omega) e1 e2 hl0 (by omega), okE, ?_⟩
    obtain ⟨bi0, w0, g1, g2, g3, g4, g5, g6, g7⟩ := PH_rn0 (o := 31) (st := st) (l := E 35 53) (n := n) (d := d) (k := k) (e := e) S P (by omega) d1 d2 hk hx (by omega) e1 e2 bwE hf (by omega) (by unfold rwO; decide) l1 l28 ch
    obtain ⟨bi2, w2, a1, a2, a3, a4, a5, a6, a7, -⟩ := add_all (o := 31) (st := st) (l := E 35 53) (v := n) S P.tf P.di e1 e2 f1 hf (by omega) (by unfold rwO; decide) l1 l28 ch n1 n0
    have q34 : addA E e (fun i => C 31 (st + i)) (E 35 53) n 35 34 ≤ E 35 34 + 4 := add_34
    have ec : addA E e (fun i => C 31 (st + i)) (E 35 53) n = addA E e (E 67) (E 35 53) n := addA_cg (fun j hj => (h67 j hj).symm)
    rw [ec] at g5 g6 g7 a1 a3 a4 a6 a7 q34
    obtain ⟨r1, r2, r3, r4, r5, r6⟩ := rnP_fx a1 a3 a4 n1 (by rw [a6 n 0 n1 (by omega) (by omega)]; exact n0) e1 (by rw [a6 e 0 e1 (by omega) (by omega)]; exact e2)
    show rnEok (rnP (addA E e (E 67) (E 35 53) n) n e) d k none
    have kd : nd (rnP (addA E e (E 67) (E 35 53) n) n e) d 0 = 2 := by
      rw [r6 d 0 (by omega), if_neg (by omega), a6 d 0 d1 (by omega) (by omega)]
      exact d2
    have ks : nd (rnP (addA E e (E 67) (E 35 53) n) n e) d 1 ≤ 256 * 64 := by
      rw [r6 d 1 (by omega), if_neg (by omega)]
      by_cases c : d = e
      · subst c
        omega
      · rw [a6 d 1 d1 (by omega) (fun y => c y.1)]
        omega
    have q34' : rnP (addA E e (E 67) (E 35 53) n) n e 35 34 < 1000000 := by
      unfold rnP
      split
      · rw [setN_o (by decide) (by decide)]
        omega
      · omega
    exact ⟨dir_ok r3 d1 kd (by omega), g5, re_ok2 r1 (r3.1 d d1 kd).2.2 (by omega) d1 kd g5 q34', fun y hy => by cases hy⟩
theorem rn_ok (S : SR bi w C B) (P : PH t w B) (T : TP C B) (hP : patOk B) (ht : t ≤ 63) (h34 : B 35 34 + 10 < 1000000) : rnOk B := by
  intro s s2 d e hd hk he l28
  obtain ⟨a1, a2, a3⟩ := wa_bd (w := 0) S.ok
  obtain ⟨m1, m2, m3⟩ := wa_bd (w := 1) S.ok
  have d1 : d < 64 := by omega
  have d2 := a3 (by omega)
  rw [hd, Int.toNat_natCast] at d2
  have e1 : e < 64 := by omega
  have e2 := m3 (by omega)
  rw [he, Int.toNat_natCast] at e2
  have n1 : eN B d (kf (wa1 B 0 s) d) < 64 := by
    rw [(kf_wa (A := B) (v := 0) (s := s) (d := d)).1] at hk ⊢
    exact eN_f S.ok (by omega)
  generalize kf (wa1 B 0 s) d = k at *
  have lw1 := wa_ls (A := B) (v := 1) (by omega)
  have le := ls_le B 1
  have pl := (hP 1 (by omega)).1
  have wE : waA (wa1 B 0 s) 1 = waA B 1 ∧ lsN (wa1 B 0 s) 1 = lsN B 1 ∧ lsF (wa1 B 0 s) 1 = lsF B 1 := wa_cg (wa1_36 B) (wa1_o B (by decide) (by decide)) (wa1_o B (by decide) (by decide))
  have hE : sC B (wa1 (wa1 B 0 s) 1 s2) := sC_t sC_wa sC_wa
  have h53 : wa1 (wa1 B 0 s) 1 s2 35 53 = lsN B 1 := by rw [wa1_53, wE.2.1]
  have c31 : ∀ j, C 31 j = B 63 j := T.2.2.2.2.2.2
  have h67 : ∀ i, i < lsN B 1 → wa1 (wa1 B 0 s) 1 s2 67 i = C 31 (lsF B 1 + i) := fun i hi => by
    rw [wa1_67 _ (by rw [wE.2.1]; exact hi), wE.2.2, c31]
    show wa1 B 0 s 63 (lsF B 1 + i) = _
    rw [wa1_o B (by decide) (by decide)]
  generalize wa1 (wa1 B 0 s) 1 s2 = E at *
  have E36 : E 36 = B 36 := hE.1 36 (by omega)
  have nds : ∀ a i, nd E a i = nd B a i := fun a i => by
    unfold nd
    rw [E36]
  have eNs : ∀ a i, eN E a i = eN B a i := fun a i => by
    unfold eN ex hasA leafA pt nd
    rw [E36]
  have S1 : SR bi w C E := SR_oth S (fun _ _ _ => rfl) (fun o ho => hE.1 o (by omega)) (fun q hq => hE.2 q (by omega) (by omega) (by omega))
  have P1 : PH t w E := PH_good t w B E E36 (hE.2 7 (by decide) (by decide) (by decide)) P
  refine rn2_ok (st := lsF B 1) S1 P1 ht d1 (by rw [nds]; exact d2) (by unfold eAll; rw [nds]; exact hk) (eNs d k) n1 e1 (by rw [nds]; exact e2) (by rw [h53]; exact lw1) (by rw [h53]; exact l28) (fun i hi => ?_) (fun i hi => h67 i (by rw [← h53]; exact hi)) (by rw [hE.2 34 (by decide) (by decide) (by decide)]; exact h34)
  rw [c31]
  rw [h53] at hi
  have : B 63 (lsF B 1 + i) ≤ 126 := ((hP 1 (by omega)).2 (lsF B 1 + i) (by omega)).2
  omega
end RNK
