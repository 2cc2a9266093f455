/-! ===== PURE: what rename leaves ===== -/
section MVR
variable {bi : Nat → Nat} {w : Nat → Nat × Nat} {C X A B E Y : tS} {t n m k d r i l v x s sz a e : Nat} {me : Bool}
theorem KR_rnP : KR A (rnP A n e) := by
  unfold rnP
  split
  · exact KR_N
  · exact KR_r
theorem s35_rnP : rnP A n e 35 = A 35 := by
  unfold rnP
  split
  · exact s35_N
  · rfl
theorem KG_rnP (hn : n < 64) : KG A (rnP A n e) := by
  unfold rnP
  split
  · exact KG_N hn
  · exact KG_r
theorem nd1_pE (hd : d < 64) : nd (putE A e k v) d 1 = nd A d 1 := by
  unfold putE ex nd
  rw [up2_o (by decide), up2_j (by omega)]
theorem nd1_rnP (hn : n < 64) (hd : d < 64) : nd (rnP A n e) d 1 = nd A d 1 := by
  unfold rnP
  split
  · unfold nd
    rw [sN_36, if_neg (by omega)]
  · rfl
theorem mv_rn2 (S : SR bi w C E) (P : PH t w E) (ht : t ≤ 63) (d1 : d < 64) (d2 : nd E d 0 = 2) (hk : k < eAll E d) (hx : eN E d k = n) (n1 : n < 64) (e1 : e < 64) (e2 : nd E e 0 = 2) (l1 : 1 ≤ E 35 53) (l28 : E 35 53 ≤ 28) {st : Nat} (ch : ∀ i, i < E 35 53 → C 31 (st + i) < 128) (h67 : ∀ i, i < E 35 53 → E 67 i = C 31 (st + i)) (h34 : E 35 34 + 10 < 1000000) : KQ 290 E (rn2 d k n E e).2 ∧ KG E (rn2 d k n E e).2 := by
  have n0 := (P.di.2.1 d k d1 d2 hk (by omega)).1
  rw [hx] at n0
  have sze := (P.sf e e1 e2).1
  have bd := (nd_k S.ok d1).2.1
  unfold rn2
  split
  · exact ⟨KQ_le KQ_r (by omega), KG_r⟩
  split
  · exact ⟨KQ_le KQ_r (by omega), KG_r⟩
  rename_i hT hM
  have bwE : nd E n 0 = 2 → bwA E n 64 e = false := fun y => by
    cases cb : bwA E n 64 e with
    | false => rfl
    | true =>
      exfalso
      have z : rnM E n e (rnT E e) < 0 := by
        cases rnT E e with
        | none =>
          show mrN E n e < 0
          unfold mrN
          rw [if_pos y, cb, if_pos rfl]
          decide
        | some x =>
          show mrS E n e x < 0
          unfold mrS
          rw [if_pos y, cb, if_pos rfl]
          decide
      omega
  by_cases cG : kf E e < eAll E e
  · have eT : rnT E e = some (eN E e (kf E e)) := if_pos cG
    rw [eT] at hT hM ⊢
    obtain ⟨h0, h1, h2⟩ := fA_hit (A := E) (d := e) (nm := E 67) (l := E 35 53) S.ok cG
    have h0 : eN E e (kf E e) < 64 := h0
    have h1 : E 36 (ex E e (kf E e) 1) = E 35 53 := h1
    have h2 : ∀ j, j < E 35 53 → E 36 (ex E e (kf E e) (2 + j)) = E 67 j := h2
    generalize hx2 : eN E e (kf E e) = x at *
    have cx : x ≠ n := fun y => hT (by rw [y])
    have cm : ¬ mrS E n e x < 0 := hM
    have hkd : (nd E n 0 = 2 ∧ nd E x 0 = 2 ∧ nd E x 1 = 0) ∨ (nd E n 0 ≠ 2 ∧ nd E x 0 ≠ 2) := by
      unfold mrS at cm
      by_cases a : nd E n 0 = 2
      · rw [if_pos a, bwE a, if_neg (by decide)] at cm
        by_cases b : nd E x 0 = 2
        · rw [if_pos b] at cm
          by_cases c : 0 < nd E x 1
          · rw [if_pos c] at cm
            exact absurd (by decide) cm
          · exact Or.inl ⟨a, b, by omega⟩
        · rw [if_neg b] at cm
          exact absurd (by decide) cm
      · rw [if_neg a] at cm
        by_cases b : nd E x 0 = 2
        · rw [if_pos b] at cm
          exact absurd (by decide) cm
        · exact Or.inr ⟨a, b⟩
    obtain ⟨g1, g2, g3, g4, g5, g6, g7, g8⟩ := PH_rn1 (o := 31) (st := st) (l := E 35 53) (k2 := kf E e) (x := x) (n := n) (d := d) (k := k) (e := e) S P d1 d2 hk hx (by omega) e1 e2 cG hx2 (by omega) cx bwE hkd (by decide) l1 l28 ch h1 (fun j hj => by rw [h2 j hj, h67 j hj])
    have q1 : nd (rnP (putE E e (kf E e) n) n e) d 1 = nd E d 1 := by rw [nd1_rnP n1 d1, nd1_pE d1]
    have kq : KQ 0 E (remA (rnP (putE E e (kf E e) n) n e) d k) := KQ_t (KQ_t (KQ_35 KR_pE s35_pE) (KQ_35 KR_rnP s35_rnP)) (KQ_rem d1 (by rw [q1]; omega))
    have kg : KG E (remA (rnP (putE E e (kf E e) n) n e) d k) := KG_t (KG_t KG_pE (KG_rnP n1)) (KG_rem d1)
    have xe := g3 x 0 h0 (by omega) (by omega)
    show KQ 290 E (if nd (remA (rnP (putE E e (kf E e) n) n e) d k) x 0 = 2 then setN (remA (rnP (putE E e (kf E e) n) n e) d k) x 0 0 else loA (remA (rnP (putE E e (kf E e) n) n e) d k) x) ∧ KG E (if nd (remA (rnP (putE E e (kf E e) n) n e) d k) x 0 = 2 then setN (remA (rnP (putE E e (kf E e) n) n e) d k) x 0 0 else loA (remA (rnP (putE E e (kf E e) n) n e) d k) x)
    by_cases c2 : nd E x 0 = 2
    · rw [if_pos (by rw [xe]; exact c2)]
      exact ⟨KQ_le (KQ_t kq KQ_N) (by omega), KG_t kg (KG_N h0)⟩
    · rw [if_neg (by rw [xe]; exact c2)]
      have b2 := (nd_k g1.ok h0).2.1
      unfold loA
      have e3 : nd (setN (remA (rnP (putE E e (kf E e) n) n e) d k) x 2 (nd (remA (rnP (putE E e (kf E e) n) n e) d k) x 2 - 1)) x 1 = nd (remA (rnP (putE E e (kf E e) n) n e) d k) x 1 := by
        unfold nd
        rw [sN_36, if_neg (by omega)]
      exact ⟨KQ_le (KQ_t (KQ_t kq KQ_N) (KQ_mf h0 (by rw [e3]; omega))) (by omega), KG_t (KG_t kg (KG_N h0)) (KG_mf h0)⟩
  · have eT : rnT E e = none := if_neg cG
    rw [eT] at hT hM ⊢
    have hl0 : lkA E e = false := by
      cases hk2 : lkA E e with
      | false => rfl
      | true =>
        exfalso
        have z : mrN E n e < 0 := by
          unfold mrN lk0
          by_cases a : nd E n 0 = 2
          · rw [if_pos a, bwE a, hk2, if_neg (by decide), if_pos rfl]
            decide
          · rw [if_neg a, hk2, if_pos rfl]
            decide
        exact hM z
    have hf := ob_lk S P (by omega) e1 e2 hl0
    obtain ⟨bi0, w0, g1, g2, g3, g4, g5, g6, g7⟩ := PH_rn0 (o := 31) (st := st) (l := E 35 53) (n := n) (d := d) (k := k) (e := e) S P (by omega) d1 d2 hk hx (by omega) e1 e2 bwE hf (by omega) (by unfold rwO; decide) l1 l28 ch
    have ec : addA E e (fun i => C 31 (st + i)) (E 35 53) n = addA E e (E 67) (E 35 53) n := addA_cg (fun j hj => (h67 j hj).symm)
    rw [ec] at g7
    have b1 := (nd_k g7.ok d1).2.1
    show KQ 290 E (remA (rnP (addA E e (E 67) (E 35 53) n) n e) d k) ∧ KG E (remA (rnP (addA E e (E 67) (E 35 53) n) n e) d k)
    exact ⟨KQ_le (KQ_t (KQ_t (KQ_add e1 (ff_1064 (by omega))) (KQ_35 KR_rnP s35_rnP)) (KQ_rem d1 (by omega))) (by omega), KG_t (KG_t (KG_add e1) (KG_rnP n1)) (KG_rem d1)⟩
theorem MV_rn (h : HI B) (S : SR bi w C B) (P : PH t w B) (T : TP C B) (hP : patOk B) (ht : t ≤ 63) (h34 : B 35 34 + 10 < 1000000) : MV B (hdX B 0 s rnG).2 := by
  obtain ⟨m1, m2, m3⟩ := wa_bd (w := 1) S.ok
  have wE : waA (wa1 B 0 s) 1 = waA B 1 ∧ lsN (wa1 B 0 s) 1 = lsN B 1 ∧ lsF (wa1 B 0 s) 1 = lsF B 1 := wa_cg (wa1_36 B) (wa1_o B (by decide) (by decide)) (wa1_o B (by decide) (by decide))
  obtain ⟨k1, k2⟩ := hd_mv (g := rnG) (s := s) h S P (fun d d1 d2 _ S1 P1 => by
    unfold rnG
    split
    · exact ⟨KQ_le KQ_r (by omega), KG_r⟩
    rename_i hk
    rw [wa1_51]
    unfold hdX
    rw [wE.1, wE.2.1]
    split
    · exact ⟨KQ_le KQ_wa (by omega), KG_wa⟩
    split
    · exact ⟨KQ_le KQ_wa (by omega), KG_wa⟩
    rename_i c3 c4
    have e1 : (waA B 1).toNat < 64 := by omega
    have e2 := m3 (by omega)
    have lw1 := wa_ls (A := B) (v := 1) (by omega)
    have le := ls_le B 1
    have pl := (hP 1 (by omega)).1
    have hk' : kf (wa1 B 0 s) d < eAll B d := by
      rw [(kf_wa (A := B) (v := 0) (s := s) (d := d)).2] at hk
      omega
    have n1 : eN B d (kf (wa1 B 0 s) d) < 64 := by
      rw [(kf_wa (A := B) (v := 0) (s := s) (d := d)).1] at hk' ⊢
      exact eN_f S.ok (by omega)
    have eNw : eN (wa1 B 0 s) d (kf (wa1 B 0 s) d) = eN B d (kf (wa1 B 0 s) d) := by
      unfold eN ex hasA leafA pt nd
      rw [wa1_36]
    rw [eNw]
    have hE : sC B (wa1 (wa1 B 0 s) 1 s) := sC_t sC_wa sC_wa
    have h53 : wa1 (wa1 B 0 s) 1 s 35 53 = lsN B 1 := by rw [wa1_53, wE.2.1]
    have c31 : ∀ j, C 31 j = B 63 j := T.2.2.2.2.2.2
    have h67 : ∀ i, i < lsN B 1 → wa1 (wa1 B 0 s) 1 s 67 i = C 31 (lsF B 1 + i) := fun i hi => by
      rw [wa1_67 _ (by rw [wE.2.1]; exact hi), wE.2.2, c31]
      show wa1 B 0 s 63 (lsF B 1 + i) = _
      rw [wa1_o B (by decide) (by decide)]
    have kw := KQ_wa (B := wa1 B 0 s) (v := 1) (s := s)
    have gw := KG_wa (B := wa1 B 0 s) (v := 1) (s := s)
    generalize (waA B 1).toNat = e at *
    generalize kf (wa1 B 0 s) d = k at *
    generalize wa1 (wa1 B 0 s) 1 s = E at *
    have E36 : E 36 = B 36 := hE.1 36 (by omega)
    have nds : ∀ a i, nd E a i = nd B a i := fun a i => by
      unfold nd
      rw [E36]
    have eNs : ∀ a i, eN E a i = eN B a i := fun a i => by
      unfold eN ex hasA leafA pt nd
      rw [E36]
    have S2 : SR bi w C E := SR_oth S (fun _ _ _ => rfl) (fun o ho => hE.1 o (by omega)) (fun q hq => hE.2 q (by omega) (by omega) (by omega))
    have P2 : PH t w E := PH_good t w B E E36 (hE.2 7 (by decide) (by decide) (by decide)) P
    obtain ⟨r1, r2⟩ := mv_rn2 (st := lsF B 1) (n := eN B d k) S2 P2 ht d1 (by rw [nds]; exact d2) (by unfold eAll; rw [nds]; exact hk') (eNs d k) n1 e1 (by rw [nds]; exact e2) (by rw [h53]; exact lw1) (by rw [h53]; omega) (fun i hi => by
      rw [c31]
      rw [h53] at hi
      have : B 63 (lsF B 1 + i) ≤ 126 := ((hP 1 (by omega)).2 (lsF B 1 + i) (by omega)).2
      omega) (fun i hi => h67 i (by rw [← h53]; exact hi)) (by rw [hE.2 34 (by decide) (by decide) (by decide)]; exact h34)
    exact ⟨KQ_le (KQ_t kw r1) (by omega), KG_t gw r2⟩)
  exact ⟨k1, tQ_rn S P T hP ht h34, k2, HI_rn h S P T hP ht h34⟩
end MVR
