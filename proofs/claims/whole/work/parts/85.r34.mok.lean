/-! ===== PURE: what the reference asks for: make, link, bytes ===== -/
section MOK
variable {bi : Nat → Nat} {w w' : Nat → Nat × Nat} {C X A B E : tS} {D : tD} {b0 : Nat} {σ : tM} {t n m k d r x i a l v e : Nat}
theorem lk_no (hk : lkA A d = false) : ffA A d = eAll A d → nee A d (ffA A d / 8) (ffA A d / 8) ≤ fre A := fun c => by
  unfold lkA at hk
  have := of_decide_eq_false hk
  have : ¬ fre A < nee A d (ffA A d / 8) (ffA A d / 8) := fun q => this ⟨c, q⟩
  omega
theorem ae_of (S : SR bi w C A) (P : PH t w A) (ht : t < 1000) (hd : d < 64) (h2 : nd A d 0 = 2) (hk : lkA A d = false) (h34 : A 35 34 + 6 < 1000000) : aeOk A d := by
  obtain ⟨f1, f2⟩ := ff_t P hd h2 ht
  obtain ⟨z1, -, z2⟩ := P.di.1 d hd h2
  have sz := (P.sf d hd h2).1
  exact ae_ok S z1 z2 (fun i hi q => P.di.2.2.2.1 d hd (Or.inr h2) i hi q) hd h2 (by omega) f1 (lk_no hk) h34
theorem ff_oth (h36 : ∀ j, ¬ (n * 95 ≤ j ∧ j < n * 95 + 85) → B 36 j = A 36 j) (hs : ∀ i, hasA B d i = hasA A d i) (hn : n < 64) (hd : d < 64) (dn : d ≠ n) : ffA B d = ffA A d ∧ eAll B d = eAll A d := ff_cg (h36 _ (by omega)) (fun k _ => by
  unfold eN ex
  rw [hs]
  exact h36 _ (by omega))
theorem mk4_fx (hn : n < 64) : (∀ j, ¬ (n * 95 ≤ j ∧ j < n * 95 + 85) → mk4 A n d v 36 j = A 36 j) ∧ mk4 A n d v 49 = A 49 ∧ mk4 A n d v 35 = A 35 := by
  refine ⟨fun j hj => ?_, ?_, ?_⟩
  · rw [mk4_36, if_neg (by omega), if_neg (by omega), if_neg (by omega), if_neg (by omega)]
  · funext j
    unfold mk4
    rw [up2_o (by decide), setN_o (by decide) (by decide), setN_o (by decide) (by decide), setN_o (by decide) (by decide), setN_o (by decide) (by decide)]
  · funext j
    unfold mk4
    rw [up2_o (by decide), setN_o (by decide) (by decide), setN_o (by decide) (by decide), setN_o (by decide) (by decide), setN_o (by decide) (by decide)]
/-- a node set up is in some class memory, whatever stands in its text -/
theorem SR_mk4 (S : SR bi w C A) (hv : v = 1 ∨ v = 2 ∨ v = 3) (hn : n < 64) (h0 : nd A n 0 = 0) (hd : d < 64) : ∃ X, SR bi w X (mk4 A n d v) := by
  by_cases c : v = 3
  · subst c
    have l81 := (nd_k S.ok hn).2.2.2.2
    have S1 : SR bi w (upR C 31 (fun i => nd A n (5 + i))) A := SR_c S (fun p hp => upR_nn (by omega))
    have := SR_set3 (o := 31) (l := nd A n 4) (d := d) S1 hn h0 (by omega) (by decide) (by decide) (by decide) (by decide) (fun i hi => by
      rw [upR_ss]
      have := S.ok (n * 95 + (5 + i))
      rw [bT_n hn (by omega)] at this
      have : nd A n (5 + i) < bN (5 + i) := this
      unfold bN at this
      rw [if_neg (by omega), if_neg (by omega), if_neg (by omega), if_neg (by omega), if_neg (by omega), if_pos (by omega)] at this
      exact this)
    have e : slF n (upR C 31 (fun i => nd A n (5 + i)) 31) 0 (nd A n 4) (setN (mk4 A n d 3) n 4 (nd A n 4)) = mk4 A n d 3 := by
      rw [slF_r (nd A n 4) 0 (setN (mk4 A n d 3) n 4 (nd A n 4)) (up2_s _ _ _ _), upR_ss]
      funext p j
      by_cases q : p = 36 ∧ n * 95 + 5 + 0 ≤ j ∧ j < n * 95 + 5 + 0 + nd A n 4
      · rw [if_pos q, q.1, mk4_36, if_neg (by omega), if_neg (by omega), if_neg (by omega), if_neg (by omega)]
        unfold nd
        rw [show n * 95 + (5 + (j - (n * 95 + 5))) = j by omega]
      · rw [if_neg q]
        unfold setN
        have e1 : up2 (mk4 A n d 3) 36 (n * 95 + 4) (nd A n 4) = mk4 A n d 3 := by
          have : mk4 A n d 3 36 (n * 95 + 4) = nd A n 4 := by
            rw [mk4_36, if_neg (by omega), if_neg (by omega), if_neg (by omega), if_neg (by omega)]
            rfl
          rw [← this]
          exact up2_id _ _ _
        rw [e1]
        have : up2 (mk4 A n d 3) 51 (2 + n / 2) 1 = mk4 A n d 3 := by
          have q := mk4_51 (A := A) (n := n) (d := d) (v := 3)
          have := up2_id (mk4 A n d 3) 51 (2 + n / 2)
          rw [q] at this
          exact this
        rw [this]
    rw [e] at this
    exact ⟨_, this⟩
  · exact ⟨_, SR_set S hn h0 (by omega) hd⟩
theorem mk_ok (S : SR bi w C B) (P : PH t w B) (ht : t < 1000) (hv : v = 1 ∨ v = 2 ∨ v = 3) (h34 : B 35 34 + 6 < 1000000) : mkOk B v := by
  intro s h0 hN hk
  obtain ⟨a1, a2, a3⟩ := wa_bd (w := 0) S.ok
  have d1 : (waA B 0).toNat < 64 := by omega
  have d2 := a3 h0
  generalize (waA B 0).toNat = d at *
  have n0 := mk_lt hN
  generalize mkN B = n at *
  have nds : ∀ a i, nd (wa1 B 0 s) a i = nd B a i := fun a i => by
    unfold nd
    rw [wa1_36]
  have S1 : SR bi w C (wa1 B 0 s) := SR_oth S (fun _ _ _ => rfl) (fun o ho => wa1_o B (by omega) (by omega)) (fun q hq => by
    unfold wa1
    rw [up2_j (by omega), cp67_o (by decide), up2_j (by omega)])
  have P1 : PH t w (wa1 B 0 s) := PH_good t w B _ (wa1_36 B) (wa1_7 B) P
  have w34 : wa1 B 0 s 35 34 = B 35 34 := by
    unfold wa1
    rw [up2_j (by decide), cp67_o (by decide), up2_j (by decide)]
  generalize wa1 B 0 s = A at *
  have dn : d ≠ n := fun y => by rw [y] at d2; omega
  obtain ⟨X, SX⟩ := SR_mk4 (d := d) (v := v) S1 hv hN (by rw [nds]; exact n0) d1
  obtain ⟨x1, x2, x3⟩ := mk4_fx (A := A) (d := d) (v := v) hN
  obtain ⟨o1, o2, o3⟩ := nee_oth (A := A) (B := mk4 A n d v) (k := ffA A d / 8) (m := ffA A d / 8) x1 x2 (by rw [x3]) hN d1 dn
  obtain ⟨f1, f2⟩ := ff_oth x1 o1 hN d1 dn
  obtain ⟨g1, g2⟩ := ff_t P1 d1 (by rw [nds]; exact d2) ht
  obtain ⟨z1, -, z2⟩ := P1.di.1 d d1 (by rw [nds]; exact d2)
  have e1 : nd (mk4 A n d v) d 1 = nd A d 1 := x1 _ (by omega)
  have sz := (P1.sf d d1 (by rw [nds]; exact d2)).1
  refine ae_ok SX (by rw [e1]; exact z1) (fun i hi => by rw [o1]; rw [e1] at hi; exact z2 i hi) (fun i hi q => by rw [o1]; rw [e1] at q; exact P1.di.2.2.2.1 d d1 (Or.inr (by rw [nds]; exact d2)) i hi q) d1 ?_ (by rw [e1]; omega) (by rw [f1]; exact g1) (fun c => ?_) (by rw [x3, w34]; exact h34)
  · have : nd (mk4 A n d v) d 0 = nd A d 0 := x1 _ (by omega)
    rw [this, nds]
    exact d2
  · rw [f1, f2] at c
    rw [f1, o2, o3]
    exact lk_no hk c
theorem ln_ok (S : SR bi w C B) (P : PH t w B) (T : TP C B) (hP : patOk B) (ht : t < 1000) (h34 : B 35 34 + 6 < 1000000) : lnOk B := by
  intro s x d hx hd x2 l28 hN hk
  obtain ⟨a1, a2, a3⟩ := wa_bd (w := 0) S.ok
  have d1 : d < 64 := by omega
  have d2 := a3 (by omega)
  rw [hd, Int.toNat_natCast] at d2
  obtain ⟨x1, x0, -⟩ := wt_us P hx
  have kb := (nd_k S.ok x1).1
  have N2 : nd B x 2 ≤ 200 := (P.nf.2.2.1 x x1 (show nd B x 0 = 1 ∨ nd B x 0 = 3 by omega)).2
  have l1 := wa_ls (A := B) (v := 0) (by omega)
  have le := ls_le B 0
  have pl := (hP 0 (by omega)).1
  have nds : ∀ a i, nd (wa1 B 0 s) a i = nd B a i := fun a i => by
    unfold nd
    rw [wa1_36]
  have S1 : SR bi w C (wa1 B 0 s) := SR_oth S (fun _ _ _ => rfl) (fun o ho => wa1_o B (by omega) (by omega)) (fun q hq => by
    unfold wa1
    rw [up2_j (by omega), cp67_o (by decide), up2_j (by omega)])
  have P1 : PH t w (wa1 B 0 s) := PH_good t w B _ (wa1_36 B) (wa1_7 B) P
  have w34 : wa1 B 0 s 35 34 = B 35 34 := by
    unfold wa1
    rw [up2_j (by decide), cp67_o (by decide), up2_j (by decide)]
  refine ⟨ae_of S1 P1 ht d1 (by rw [nds]; exact d2) hk (by rw [w34]; exact h34), ?_⟩
  obtain ⟨f1, f2⟩ := ff_t P1 d1 (by rw [nds]; exact d2) ht
  have c29 : ∀ j, C 29 j = B 62 j := T.2.2.1.2.2.2
  obtain ⟨bi', w', g1, g2, g3, g4, g5, g6, -⟩ := add_all (o := 29) (st := lsF B 0) (l := lsN B 0) (v := x) S1 P1.tf P1.di d1 (by rw [nds]; exact d2) f1 (ob_lk S1 P1 ht d1 (by rw [nds]; exact d2) hk) (by rw [w34]; omega) (by unfold rwO; decide) l1 l28 (fun i hi => by
    rw [c29]
    have : B 62 (lsF B 0 + i) ≤ 126 := ((hP 0 (by omega)).2 (lsF B 0 + i) (by omega)).2
    omega) x1 (by rw [nds]; exact x0)
  have ec : addA (wa1 B 0 s) d (fun i => C 29 (lsF B 0 + i)) (lsN B 0) x = addA (wa1 B 0 s) d (wa1 B 0 s 67) (lsN B 0) x := addA_cg (fun j hj => by
    rw [wa1_67 B hj]
    exact c29 _)
  rw [ec] at g6
  rw [wa1_53, g6 x 2 x1 (by omega) (by omega), nds]
  omega
theorem enL_ok (hn : n < 64) : ∀ m i (bi : Nat → Nat) (w : Nat → Nat × Nat) (C A : tS), SR bi w C A → nd A n 0 = 1 → i + m ≤ 1064 → neL C n i i m ≤ fre A → A 35 34 + 3 * m < 1000000 → enOk n i m A ∧ enC n i m A ≤ 5 * neL C n i i m
  | 0, i, bi, w, C, A, _, _, _, _, _ => ⟨trivial, Nat.zero_le _⟩
  | m + 1, i, bi, w, C, A, h, n2, him, hne, h34 => by
    obtain ⟨bi1, w1, g1, g2, g3, g4, g5, g6⟩ := ne_step h hn (Or.inl n2) him hne h34
    have ne := ne_eq (fr := i) (to := i) h hn (by omega) (by omega) (Nat.le_refl _)
    rw [show i + 1 - i = 1 by omega] at ne
    obtain ⟨e1, e2⟩ := enP_ok (i := i) h hn (Or.inl n2) (by omega) (fun _ => by rw [← ne]; omega) (by omega)
    obtain ⟨r1, r2⟩ := enL_ok hn m (i + 1) bi1 w1 _ _ g1 (by rw [g2]; exact n2) (by omega) g3 g4
    rw [← ne] at e2
    refine ⟨⟨e1, r1⟩, ?_⟩
    show ensC A n i + enC n (i + 1) m (ensA A n i) ≤ _
    omega
/-- how many blocks are wanted at most -/
theorem neL_bd {fr : Nat} : ∀ m i, fr < i → neL C n fr i m ≤ m + ((i + m + 23) / 32 - (i + 23) / 32) + (if i ≤ 40 then 1 else 0)
  | 0, i, _ => Nat.zero_le _
  | m + 1, i, h => by
    have ih := neL_bd (fr := fr) m (i + 1) (by omega)
    show (if ptC C n i = 0 then 1 else 0) + (if 8 ≤ i ∧ (i = fr ∨ (i - 8) % 32 = 0) ∧ tbC C n i = 0 then 1 else 0) + (if 40 ≤ i ∧ (i = fr ∨ i = 40) ∧ nwC C n 10 = 0 then 1 else 0) + neL C n fr (i + 1) m ≤ _
    have a1 : (if ptC C n i = 0 then 1 else 0) ≤ 1 := by split <;> omega
    have a2 : (if 8 ≤ i ∧ (i = fr ∨ (i - 8) % 32 = 0) ∧ tbC C n i = 0 then 1 else 0) ≤ (if (i + 24) % 32 = 0 then 1 else 0) := by
      by_cases c : (i + 24) % 32 = 0
      · rw [if_pos c]
        split <;> omega
      · rw [if_neg c, if_neg (by omega)]
        exact Nat.le_refl _
    have a3 : (if 40 ≤ i ∧ (i = fr ∨ i = 40) ∧ nwC C n 10 = 0 then 1 else 0) ≤ (if i = 40 then 1 else 0) := by
      by_cases c : i = 40
      · rw [if_pos c]
        split <;> omega
      · rw [if_neg c, if_neg (by omega)]
        exact Nat.le_refl _
    generalize neL C n fr (i + 1) m = N at *
    by_cases c1 : (i + 24) % 32 = 0
    · rw [if_pos c1] at a2
      by_cases c2 : i ≤ 40
      · rw [if_pos c2]
        by_cases c3 : i = 40
        · rw [if_pos c3] at a3
          rw [if_neg (by omega)] at ih
          omega
        · rw [if_neg c3] at a3
          rw [if_pos (by omega)] at ih
          omega
      · rw [if_neg c2]
        rw [if_neg (show ¬ i = 40 by omega)] at a3
        rw [if_neg (show ¬ i + 1 ≤ 40 by omega)] at ih
        omega
    · rw [if_neg c1] at a2
      by_cases c2 : i ≤ 40
      · rw [if_pos c2]
        by_cases c3 : i = 40
        · rw [if_pos c3] at a3
          rw [if_neg (by omega)] at ih
          omega
        · rw [if_neg c3] at a3
          rw [if_pos (by omega)] at ih
          omega
      · rw [if_neg c2]
        rw [if_neg (show ¬ i = 40 by omega)] at a3
        rw [if_neg (show ¬ i + 1 ≤ 40 by omega)] at ih
        omega
theorem neL_66 (h : m ≤ 66) : neL C n i i m ≤ 72 := by
  cases m with
  | zero => exact Nat.zero_le _
  | succ m =>
    have ih := neL_bd (C := C) (n := n) (fr := i) m (i + 1) (by omega)
    show (if ptC C n i = 0 then 1 else 0) + (if 8 ≤ i ∧ (i = i ∨ (i - 8) % 32 = 0) ∧ tbC C n i = 0 then 1 else 0) + (if 40 ≤ i ∧ (i = i ∨ i = 40) ∧ nwC C n 10 = 0 then 1 else 0) + neL C n i (i + 1) m ≤ 72
    have a1 : (if ptC C n i = 0 then 1 else 0) ≤ 1 := by split <;> omega
    have a2 : (if 8 ≤ i ∧ (i = i ∨ (i - 8) % 32 = 0) ∧ tbC C n i = 0 then 1 else 0) ≤ 1 := by split <;> omega
    have a3 : (if 40 ≤ i ∧ (i = i ∨ i = 40) ∧ nwC C n 10 = 0 then 1 else 0) ≤ 1 := by split <;> omega
    have a4 : (if i + 1 ≤ 40 then 1 else 0) ≤ 1 := by split <;> omega
    omega
theorem by_ok (S : SR bi w C A) (P : PH t w A) (hn : n < 64) (n2 : nd A n 0 = 1) (hl : a + l ≤ 272384) (h1 : 1 ≤ l) (hl2 : l ≤ 16384) (h34 : A 35 34 + 300 < 1000000) : byOk n a l A := by
  refine ⟨S.zm.1.2.2.2.1, fun hne => ?_⟩
  obtain ⟨b1, b2, b3, b4, b5, b6, b7, b8⟩ := by1_fx S P hn n2 hl
  obtain ⟨bi', w', f1, f2, f3, f4, f5, f6⟩ := rdy_fx S P hn n2 hl h1 hl2 hne h34
  have ne := ne_eq (fr := a / 256) (to := (a + l - 1) / 256) b1 hn (by omega) (by omega) (by omega)
  obtain ⟨e1, e2⟩ := enL_ok hn ((a + l - 1) / 256 + 1 - a / 256) (a / 256) bi w (mr1 C n a l) (by1 n a l A) b1 b7 (by omega) (by rw [ne, b4, b5]; exact hne) (by rw [b6]; omega)
  have := neL_66 (C := mr1 C n a l) (n := n) (i := a / 256) (m := (a + l - 1) / 256 + 1 - a / 256) (by omega)
  exact ⟨e1, by omega, f6⟩
theorem hb_ok {y off len : Int32} {fit : Bool} (S : SR bi w C B) (P : PH t w B) (hH : HO B) (hf : fit = true → ¬ len < 0 → len.toNatClampNeg ≤ 16384) (h34 : B 35 34 + 300 < 1000000) : hbOk y off len fit B := by
  intro n ex ho hl ff
  obtain ⟨n1, n2⟩ := hd_HO hH ex
  exact ⟨n1, fun a b => by_ok S P n1 n2 a b (hf ff hl) h34⟩
end MOK
