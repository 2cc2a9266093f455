/-! ===== PURE: how much a call touches: a file's blocks got ===== -/
def GE (n lo hi : Nat) (A B : tS) : Prop := ∀ b, B 51 b ≠ 0 → A 51 b ≠ 0 ∨ TG n lo hi B b
def GV (n : Nat) (A B : tS) : Prop := (∀ s, vs s → slo A n s ≠ 0 → slo B n s = slo A n s) ∧ B 35 6 = A 35 6
section GRG
variable {bi : Nat → Nat} {w : Nat → Nat × Nat} {C X A B E : tS} {t n m k d r s i lo hi lim sz l a v x q : Nat} {me : Bool}
theorem GE_r : GE n lo hi A A := fun _ h => Or.inl h
theorem GV_r : GV n A A := ⟨fun _ _ _ => rfl, rfl⟩
theorem GV_t (h : GV n A B) (g : GV n B E) : GV n A E := ⟨fun s hs h0 => by rw [g.1 s hs (by rw [h.1 s hs h0]; exact h0), h.1 s hs h0], g.2.trans h.2⟩
theorem GE_t (h : GE n lo hi A B) (g : GE n lo hi B E) (v : GV n B E) : GE n lo hi A E := fun b hb => by
  rcases g b hb with y | y
  · rcases h b y with z | z
    · exact Or.inl z
    · rcases z with z | z | ⟨s, a, c, d, e, f⟩
      · exact Or.inr (Or.inl z)
      · exact Or.inr (Or.inr (Or.inl z))
      · exact Or.inr (Or.inr (Or.inr ⟨s, a, c, by rw [v.1 s c d]; exact d, by rw [v.1 s c d, v.2]; exact e, f⟩))
  · exact Or.inr y
theorem GE_at (hn : n < 64) (hv : vs s) (h0 : slo A n s = 0) (hs : ∀ n' s', n' < 64 → vs s' → slo (atA A n s me) n' s' = if n' = n ∧ s' = s then ff A + 1 else slo A n' s') (h6 : atA A n s me 35 6 = A 35 6) (hp : rs s = false → slo A n (pa s) ≠ 0) (hme : me = true → 2000 ≤ s ∧ ∃ j, lo ≤ j ∧ j < hi ∧ j < 1064 ∧ 8 ≤ j ∧ (s = pa j ∨ (40 ≤ j ∧ s = 2001))) (hj : rs s = false → ∃ j, lo ≤ j ∧ j < hi ∧ j < 1064 ∧ 8 ≤ j ∧ (pa s = pa j ∨ (40 ≤ j ∧ pa s = 2001))) : GE n lo hi A (atA A n s me) ∧ GV n A (atA A n s me) := by
  refine ⟨fun b hb => ?_, fun s' hs' z => ?_, h6⟩
  · by_cases c : b = nbA A (tcC A n s)
    · cases r : rs s with
      | true =>
        refine Or.inr (Or.inr (Or.inl ?_))
        have et : tcC A n s = 2 + n / 2 := by
          unfold tcC
          rw [r]
          rfl
        rw [c, et]
        unfold nbA
        rw [if_pos (by omega)]
      | false =>
        obtain ⟨f1, f2, f3, f4, f5⟩ := slo_n (A := A) (n := n) hv r
        have lz := hp r
        have lz1 : slo (atA A n s me) n (pa s) = slo A n (pa s) := by rw [hs n _ hn f2, if_neg (fun q => f5 q.2)]
        refine Or.inr (Or.inr (Or.inr ⟨pa s, f3, f2, by rw [lz1]; exact lz, ?_, hj r⟩))
        have et : tcC A n s = 34 + (slo A n (pa s) - 1) := by
          unfold tcC
          rw [r]
          rfl
        rw [c, lz1, h6, et]
        unfold nbA
        rw [if_neg (by omega)]
        omega
    · unfold atA at hb
      rw [up2_if, if_neg (fun q => c q.2), up2_o (by decide)] at hb
      rcases get_51 hb with y | y | ⟨y, z⟩
      · exact Or.inl y
      · exact Or.inr (Or.inl y)
      · obtain ⟨m1, m2⟩ := hme y
        have e : slo (atA A n s me) n s = ff A + 1 := by rw [hs n s hn hv, if_pos ⟨rfl, rfl⟩]
        exact Or.inr (Or.inr (Or.inr ⟨s, m1, hv, by rw [e]; omega, by rw [e, h6, Nat.add_sub_cancel]; exact z, m2⟩))
  · rw [hs n s' hn hs', if_neg (fun q => by rw [q.2] at z; exact z h0)]
theorem GE_st (h : SR bi w C A) (hn : n < 64) (hkd : nd A n 0 = 1 ∨ nd A n 0 = 2) (hv : vs s) (h2 : 2000 ≤ s) (hp : rs s = false → slo A n (pa s) ≠ 0) (hf : slo A n s = 0 → 0 < fre A) (h34 : A 35 34 + 1 < 1000000) (hme : ∃ j, lo ≤ j ∧ j < hi ∧ j < 1064 ∧ 8 ≤ j ∧ (s = pa j ∨ (40 ≤ j ∧ s = 2001))) (hj : rs s = false → ∃ j, lo ≤ j ∧ j < hi ∧ j < 1064 ∧ 8 ≤ j ∧ (pa s = pa j ∨ (40 ≤ j ∧ pa s = 2001))) : GE n lo hi A (stA A n s true) ∧ GV n A (stA A n s true) := by
  unfold stA
  by_cases c : slo A n s = 0
  · rw [if_pos c]
    obtain ⟨bi', w', g1, g2, g3, g4, g5, g6, g7⟩ := at_all (me := true) h (fun _ => rfl) hn hkd hv hp c (hf c) h34
    exact GE_at hn hv c g3 (g6 6 (by decide)) hp (fun _ => ⟨h2, hme⟩) hj
  · rw [if_neg c]
    exact ⟨GE_r, GV_r⟩
theorem GE_50 : GE n lo hi A (up2 A 50 k r) ∧ GV n A (up2 A 50 k r) := ⟨fun b hb => Or.inl (by rwa [up2_o (by decide)] at hb), fun _ _ _ => sl_50, up2_o (by decide)⟩
theorem GE_tt (h : GE n lo hi A B ∧ GV n A B) (g : GE n lo hi B E ∧ GV n B E) : GE n lo hi A E ∧ GV n A E := ⟨GE_t h.1 g.1 g.2, GV_t h.2 g.2⟩
theorem GE_ens (h : SR bi w C A) (hn : n < 64) (hk1 : nd A n 0 = 1) (hi' : i < 1064) (hf : hasA A n i = 0 → obN C n i ≤ fre A) (h34 : A 35 34 + 3 < 1000000) (hlo : lo ≤ i) (hhi : i < hi) : GE n lo hi A (ensA A n i) ∧ GV n A (ensA A n i) := by
  have hkd : nd A n 0 = 1 ∨ nd A n 0 = 2 := Or.inl hk1
  have h3 : nd A n 0 ≠ 3 := by omega
  have vi : vs i := Or.inl hi'
  obtain ⟨p1, p2, p3, p4⟩ := pt_c h.ok h.ti h.mr hn h3 hi'
  rw [ens_50]
  by_cases c : hasA A n i = 0
  case neg =>
    rw [if_pos c]
    exact ⟨GE_r, GV_r⟩
  rw [if_neg (fun q => q c)]
  have hf := hf c
  have si : slo A n i = 0 := by rw [hs_slo hi']; exact c
  have f0 : 0 < fre A := by
    have : 1 ≤ obN C n i := by
      unfold obN
      omega
    omega
  -- the last step
  have fin : ∀ (bi1 : Nat → Nat) (w1 : Nat → Nat × Nat) (C1 A1 : tS), SR bi1 w1 C1 A1 → nd A1 n 0 = 1 → slo A1 n i = 0 → (rs i = false → slo A1 n (pa i) ≠ 0) → 0 < fre A1 → A1 35 34 + 1 < 1000000 → GE n lo hi A1 (up2 (ens4 A1 n i) 50 n 1) ∧ GV n A1 (up2 (ens4 A1 n i) 50 n 1) := by
    intro bi1 w1 C1 A1 H k1 k2 k3 k4 k5
    have e4 : ens4 A1 n i = atA A1 n i false := by
      unfold ens4
      have em : (nd A1 n 0 == 2) = false := by rw [k1]; rfl
      rw [em]
      by_cases d : i < 8
      · have hs : rs i = true := decide_eq_true (Or.inl d)
        have er : ro i = 85 + i := by unfold ro; rw [if_neg (by omega), if_neg (by omega)]
        rw [if_pos d, ← er, att_r hn hs]
      · have hs : rs i = false := decide_eq_false (by omega)
        have e1 := lf_slo (A := A1) (n := n) (i := i) (by omega) hi'
        have ek : kx i = (i - 8) % 32 := by unfold kx; rw [if_neg (by omega)]; split <;> omega
        have ep : plA i = kx i := by rw [ek]; unfold plA; split <;> omega
        rw [if_neg d, att_n (s := i) (n := n) hs (by rw [e1]) ep]
    rw [e4]
    obtain ⟨bi', w', g1, g2, g3, g4, g5, g6, g7⟩ := at_all (me := false) H (fun q => by omega) hn (Or.inl k1) vi k3 k2 k4 k5
    exact GE_tt (GE_at hn vi k2 g3 (g6 6 (by decide)) k3 (fun q => by cases q) (fun q => by
      have := rs_f q
      exact ⟨i, hlo, hhi, hi', by omega, Or.inl rfl⟩)) GE_50
  by_cases d : i < 8
  · have hs : rs i = true := decide_eq_true (Or.inl d)
    have x1 : ens1 A n i = A := by unfold ens1; rw [if_neg (by omega)]
    have x2 : ens2 A n i = A := by unfold ens2; rw [if_neg (by omega)]
    have x3 : ens3 A n i = A := by unfold ens3; rw [if_neg (by omega)]
    rw [x1, x2, x3]
    exact fin bi w C A h hk1 si (fun q => by rw [hs] at q; cases q) f0 (by omega)
  · by_cases d2 : i < 40
    · have ep : pa i = 2000 := by unfold pa; rw [if_neg (by omega), if_pos d2]
      have s93 : slo A n 2000 = nd A n 93 := rfl
      have t9 : tbC C n i = pv bi A (nd A n 93) := by unfold tbC; rw [if_pos d2]; exact p3
      have x1 : ens1 A n i = stA A n 2000 true := by
        unfold ens1 stA
        rw [s93]
        by_cases q : nd A n 93 = 0
        · rw [if_pos ⟨by omega, d2, q⟩, if_pos q]
          exact att_r (s := 2000) hn rfl
        · rw [if_neg (fun z => q z.2.2), if_neg q]
      have y1 : ob1T C n i = C := by unfold ob1T; rw [if_neg (by omega)]
      have on : obN C n i = (if slo A n 2000 = 0 then 1 else 0) + 1 := by
        unfold obN
        rw [y1, if_neg (by omega), t9, s93]
        by_cases q : nd A n 93 = 0
        · rw [if_pos ⟨by omega, pv_0.mpr q⟩, if_pos q]
        · rw [if_neg (fun z => q (pv_0.mp z.2)), if_neg q]
      rw [on] at hf
      obtain ⟨bi1, w1, g1, g2, g3, g4, g5, g6⟩ := st_all (me := true) (s := 2000) h (fun _ => rfl) hn hkd (by unfold vs; omega) (fun q => by cases q) (fun q => f0) (by omega)
      have b1 := g6.1
      have b2 := g6.2.2.1
      have b3 : (if slo A n 2000 = 0 then 1 else 0) ≤ 1 := by split <;> omega
      have x2 : ens2 (stA A n 2000 true) n i = stA A n 2000 true := by unfold ens2; rw [if_neg (by omega)]
      have x3 : ens3 (stA A n 2000 true) n i = stA A n 2000 true := by unfold ens3; rw [if_neg (by omega)]
      rw [x1, x2, x3]
      have ss : slo (stA A n 2000 true) n i = 0 := by rw [g3 n i hn vi (by omega)]; exact si
      exact GE_tt (GE_st h hn hkd (by unfold vs; omega) (by omega) (fun q => by cases q) (fun _ => f0) (by omega) ⟨i, hlo, hhi, hi', by omega, Or.inl ep.symm⟩ (fun q => by cases q)) (fin bi1 w1 _ _ g1 ((g2.2.2 n 0 hn (by omega)).trans hk1) ss (fun _ => by rw [ep]; exact g4) (by omega) (by omega))
    · have ep : pa i = 2100 + (i - 40) / 32 := by unfold pa; rw [if_neg (by omega), if_neg d2]
      have vp : vs (pa i) := by rw [ep]; unfold vs; omega
      have rp : rs (pa i) = false := by rw [ep]; exact decide_eq_false (by omega)
      have epp : pa (pa i) = 2001 := by rw [ep]; unfold pa; rw [if_pos (by omega)]
      have ekp : kx (pa i) = (i - 40) / 32 := by rw [ep]; unfold kx; rw [if_pos (by omega)]; omega
      have s94 : ∀ (Z : tS), slo Z n 2001 = nd Z n 94 := fun _ => rfl
      have x1 : ens1 A n i = A := by unfold ens1; rw [if_neg (by omega)]
      have x2 : ens2 A n i = stA A n 2001 true := by
        unfold ens2 stA
        rw [s94]
        by_cases q : nd A n 94 = 0
        · rw [if_pos ⟨by omega, q⟩, if_pos q]
          exact att_r (s := 2001) hn rfl
        · rw [if_neg (fun z => q z.2), if_neg q]
      have y1 : ob1T C n i = stC C A n 2001 true := by
        unfold ob1T stC
        rw [s94, p4]
        by_cases q : nd A n 94 = 0
        · rw [if_pos ⟨by omega, pv_0.mpr q⟩, if_pos q]
          exact atC_r (s := 2001) rfl
        · rw [if_neg (fun z => q (pv_0.mp z.2)), if_neg q]
      have on1 : (if 40 ≤ i ∧ nwC C n 10 = 0 then 1 else 0) = (if slo A n 2001 = 0 then 1 else 0) := by
        rw [s94, p4]
        by_cases q : nd A n 94 = 0
        · rw [if_pos ⟨by omega, pv_0.mpr q⟩, if_pos q]
        · rw [if_neg (fun z => q (pv_0.mp z.2)), if_neg q]
      obtain ⟨bi1, w1, g1, g2, g3, g4, g5, g6⟩ := st_all (me := true) (s := 2001) h (fun _ => rfl) hn hkd (by unfold vs; omega) (fun q => by cases q) (fun _ => f0) (by omega)
      have T1 : GE n lo hi A (stA A n 2001 true) ∧ GV n A (stA A n 2001 true) := GE_st h hn hkd (by unfold vs; omega) (by omega) (fun q => by cases q) (fun _ => f0) (by omega) ⟨i, hlo, hhi, hi', by omega, Or.inr ⟨by omega, rfl⟩⟩ (fun q => by cases q)
      have ons : obN C n i = (if slo A n 2001 = 0 then 1 else 0) + (if 8 ≤ i ∧ tbC (stC C A n 2001 true) n i = 0 then 1 else 0) + 1 := by
        unfold obN
        rw [on1, y1]
      rw [x1, x2]
      generalize hA1 : stA A n 2001 true = A1 at *
      generalize hC1 : stC C A n 2001 true = C1 at *
      have k1 : nd A1 n 0 = nd A n 0 := g2.2.2 n 0 hn (by omega)
      obtain ⟨-, r2, r3, r4⟩ := pt_c g1.ok g1.ti g1.mr hn (show nd A1 n 0 ≠ 3 by omega) hi'
      have el := lf_slo (A := A1) (n := n) (i := i) (by omega) hi'
      have b1 := g6.1
      have b2 := g6.2.2.1
      have b3 : (if slo A n 2001 = 0 then 1 else 0) ≤ 1 := by split <;> omega
      have x3 : ens3 A1 n i = stA A1 n (pa i) true := by
        unfold ens3 stA
        rw [el]
        by_cases q : leafA A1 n i = 0
        · rw [if_pos ⟨by omega, q⟩, if_pos q]
          exact att_n rp (by rw [epp]; rfl) ekp.symm
        · rw [if_neg (fun z => q z.2), if_neg q]
      have tb0 : tbC C1 n i = 0 ↔ slo A1 n (pa i) = 0 := by rw [r2 (by omega), ← el]; exact pv_0
      have on2 : (if 8 ≤ i ∧ tbC C1 n i = 0 then 1 else 0) = (if slo A1 n (pa i) = 0 then 1 else 0) := by
        by_cases q : slo A1 n (pa i) = 0
        · rw [if_pos ⟨by omega, tb0.mpr q⟩, if_pos q]
        · rw [if_neg (fun y => q (tb0.mp y.2)), if_neg q]
      rw [ons, on2] at hf
      have fq : slo A1 n (pa i) = 0 → 0 < fre A1 := fun q => by rw [if_pos q] at hf; omega
      obtain ⟨bi2, w2, G1, G2, G3, G4, G5, G6⟩ := st_all (me := true) (s := pa i) g1 (fun _ => rfl) hn (by omega) vp (fun _ => by rw [epp]; exact g4) fq (by omega)
      have c1 := G6.1
      have c2 := G6.2.2.1
      have c3 : (if slo A1 n (pa i) = 0 then 1 else 0) ≤ 1 := by split <;> omega
      have ss1 : slo A1 n i = 0 := by rw [g3 n i hn vi (by omega)]; exact si
      have ss : slo (stA A1 n (pa i) true) n i = 0 := by rw [G3 n i hn vi (fun q => by have := q.2; omega)]; exact ss1
      rw [x3]
      exact GE_tt T1 (GE_tt (GE_st g1 hn (by omega) vp (by rw [ep]; omega) (fun _ => by rw [epp]; exact g4) fq (by omega) ⟨i, hlo, hhi, hi', by omega, Or.inl rfl⟩ (fun _ => ⟨i, hlo, hhi, hi', by omega, Or.inr ⟨by omega, epp⟩⟩)) (fin bi2 w2 _ _ G1 (by rw [G2.2.2 n 0 hn (by omega), k1]; exact hk1) ss (fun _ => G4) (by omega) (by omega)))
theorem GE_enL (hn : n < 64) : ∀ m i (bi : Nat → Nat) (w : Nat → Nat × Nat) (C A : tS), SR bi w C A → nd A n 0 = 1 → i + m ≤ 1064 → neL C n i i m ≤ fre A → A 35 34 + 3 * m < 1000000 → lo ≤ i → i + m ≤ hi → GE n lo hi A (enL n i m A) ∧ GV n A (enL n i m A)
  | 0, i, bi, w, C, A, _, _, _, _, _, _, _ => ⟨GE_r, GV_r⟩
  | m + 1, i, bi, w, C, A, h, n2, him, hne, h34, hl, hh => by
    obtain ⟨bi1, w1, g1, g2, g3, g4, g5, g6⟩ := ne_step h hn (Or.inl n2) him hne h34
    exact GE_tt (GE_ens h hn n2 (by omega) (fun c => by have := ob_ne h hn (by omega) (by omega) c; omega) (by omega) hl (by omega)) (GE_enL hn m (i + 1) bi1 w1 _ _ g1 (by rw [g2]; exact n2) (by omega) g3 g4 (by omega) (by omega))
theorem TG_66 {b : Nat} (hh : hi ≤ lo + 66) (h : TG n lo hi B b) : b ∈ 1 :: (2 + n / 2) :: bks B n [2000, 2001, 2100 + (lo - 40) / 32, 2101 + (lo - 40) / 32, 2102 + (lo - 40) / 32, 2103 + (lo - 40) / 32] := by
  rcases h with h | h | ⟨s, h1, h2, h3, h4, j, j1, j2, j3, j4, j5⟩
  · rw [h]
    exact List.mem_cons_self
  · rw [h]
    exact List.mem_cons_of_mem _ List.mem_cons_self
  · refine List.mem_cons_of_mem _ (List.mem_cons_of_mem _ (List.mem_map.mpr ⟨s, ?_, h4.symm⟩))
    have : s = 2000 ∨ s = 2001 ∨ s = 2100 + (lo - 40) / 32 ∨ s = 2101 + (lo - 40) / 32 ∨ s = 2102 + (lo - 40) / 32 ∨ s = 2103 + (lo - 40) / 32 := by
      rcases j5 with y | y
      · unfold pa at y
        rw [if_neg (by omega)] at y
        by_cases c : j < 40
        · rw [if_pos c] at y
          exact Or.inl y
        · rw [if_neg c] at y
          omega
      · exact Or.inr (Or.inl y.2)
    simp only [List.mem_cons, List.not_mem_nil, or_false]
    exact this
/-- blocks for bytes -/
theorem tB_by2 (S : SR bi w C A) (P : PH t w A) (hn : n < 64) (n2 : nd A n 0 = 1) (hl : a + l ≤ 272384) (h1 : 1 ≤ l) (hl2 : l ≤ 16384) (hne : nee A n (a / 256) ((a + l - 1) / 256) ≤ fre A) (h34 : A 35 34 + 300 < 1000000) : ∃ L R, L.length ≤ 13 ∧ R.length ≤ 34 ∧ tB L R A (by2 n a l A) := by
  obtain ⟨b1, b2, b3, b4, b5, b6, b7, b8⟩ := by1_fx S P hn n2 hl
  have ne := ne_eq (fr := a / 256) (to := (a + l - 1) / 256) b1 hn (by omega) (by omega) (by omega)
  obtain ⟨e1, -⟩ := GE_enL (lo := a / 256) (hi := (a + l - 1) / 256 + 1) hn ((a + l - 1) / 256 + 1 - a / 256) (a / 256) bi w (mr1 C n a l) (by1 n a l A) b1 b7 (by omega) (by rw [ne, b4, b5]; exact hne) (by rw [b6]; omega) (Nat.le_refl _) (by omega)
  have e52 : ∀ m i (A : tS) b, enL n i m A 52 b ≠ 0 → A 52 b ≠ 0 := by
    intro m
    induction m with
    | zero =>
      intro i A b h
      exact h
    | succ m ih =>
      intro i A b h
      obtain ⟨L, -, t⟩ := tB_ens (A := A) (n := n) (i := i)
      rcases t.2 b (ih (i + 1) (ensA A n i) b h) with y | y
      · exact y
      · cases y
  obtain ⟨L1, R1, l1, r1, t1⟩ : ∃ L R, L.length ≤ 5 ∧ R.length ≤ 34 ∧ tB L R A (by1 n a l A) := by
    unfold by1
    split
    · exact ⟨[], [], Nat.zero_le _, Nat.zero_le _, tB_nil⟩
    · refine ⟨_, _, ?_, ?_, tB_sz (sz := a + l) S P hn n2 hl⟩
      · exact Nat.le_refl 5
      · unfold bks tbl
        rw [List.length_map, List.length_cons, List.length_cons, List.length_map, List.length_range]
        exact Nat.le_refl _
  have t2 : tB (1 :: (2 + n / 2) :: bks (by2 n a l A) n [2000, 2001, 2100 + (a / 256 - 40) / 32, 2101 + (a / 256 - 40) / 32, 2102 + (a / 256 - 40) / 32, 2103 + (a / 256 - 40) / 32]) [] (by1 n a l A) (by2 n a l A) := by
    refine ⟨fun b hb => ?_, fun b hb => Or.inl (e52 _ _ _ b hb)⟩
    rcases e1 b hb with y | y
    · exact Or.inl y
    · exact Or.inr (TG_66 (by omega) y)
  refine ⟨_, _, ?_, ?_, tB_t t1 t2⟩
  · unfold bks
    rw [List.length_append, List.length_cons, List.length_cons, List.length_map]
    show L1.length + 8 ≤ 13
    omega
  · rw [List.append_nil]
    exact r1
end GRG
