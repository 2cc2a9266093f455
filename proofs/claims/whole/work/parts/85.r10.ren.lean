/-! ===== PURE: the tree's form: directories removed, entries moved ===== -/
section PHN
variable {bi : Nat → Nat} {w w' : Nat → Nat × Nat} {C C' X A A' B B1 : tS} {t n m k d r x j v o st l e k2 : Nat}
/-- a directory without entries is no more -/
theorem PH_fd (g1 : SR bi w X B1) (g3 : TF B1) (g4 : DI w B1) (xl : x < 64) (kx : nd B1 x 0 = 2) (z1 : nd B1 x 1 = 0) (hnf : NFa (fun m => if m = x then 0 else nd B1 m 0) (fun m => nd B1 m 3) (fun m => nd B1 m 2) (ev B1)) (hsf : ∀ a, a < 64 → a ≠ x → nd B1 a 0 = 2 → nd B1 a 1 ≤ 256 * t ∧ (0 < nd B1 a 1 → ∃ b, eAll B1 a ≤ b + 8 ∧ ev B1 a b ≠ 64)) : SR bi w (disC X x) (setN B1 x 0 0) ∧ PH t w (setN B1 x 0 0) ∧ KR B1 (setN B1 x 0 0) := by
  have pz := ptr0 g3 xl (fun i hi => g4.2.2.2.1 x xl (Or.inr kx) i hi (by omega))
  have S := SR_dis g1 xl g3 (fun q => by omega) (fun _ => pz)
  rw [if_neg (by omega)] at S
  obtain ⟨r1, r2, r3⟩ := set0_r (A := B1) (n := x) (v := 0)
  have kr : KR B1 (setN B1 x 0 0) := KR_N
  generalize hB : setN B1 x 0 0 = B at *
  have nde : ∀ m j, m < 64 → j < 95 → nd B m j = if m = x ∧ j = 0 then 0 else nd B1 m j := fun m j hm hj => by
    unfold nd
    rw [r1]
    by_cases c : m = x ∧ j = 0
    · rw [if_pos c, if_pos (by omega)]
    · rw [if_neg c, if_neg (by omega)]
  have oth : ∀ m j, m < 64 → j ≠ 0 → j < 95 → nd B m j = nd B1 m j := fun m j hm a b => by rw [nde m j hm b, if_neg (fun q => a q.2)]
  have kx0 : ∀ m, m < 64 → nd B m 0 = if m = x then 0 else nd B1 m 0 := fun m hm => by
    rw [nde m 0 hm (by omega)]
    by_cases c : m = x
    · rw [if_pos ⟨c, rfl⟩, if_pos c]
    · rw [if_neg (fun q => c q.1), if_neg c]
  have pte : ∀ r k, pt B r k = pt B1 r k := fun r k => by
    unfold pt
    rw [r1, if_neg (by omega)]
  have hse : ∀ m s, m < 64 → vs s → slo B m s = slo B1 m s := fun m s hm hs => by
    unfold slo hasA leafA
    simp only [pte, oth m 93 hm (by omega) (by omega), oth m 94 hm (by omega) (by omega)]
    by_cases c : s < 8
    · rw [oth m (85 + s) hm (by omega) (by omega)]
    · simp only [if_neg c]
  have hs : ∀ a i, a < 64 → i < 1064 → hasA B a i = hasA B1 a i := fun a i ha hi => by
    have := hse a i ha (Or.inl hi)
    rwa [hs_slo hi, hs_slo hi] at this
  have hez : ∀ r k i, k < 8 → i < 30 → eZ B r k i = eZ B1 r k i := fun r k i _ _ => by
    unfold eZ
    rw [r1, if_neg (by omega)]
  obtain ⟨e1, e2⟩ := sm_ev (B := B) (A := B1) g1.ok g4 (fun a ha _ => oth a 1 ha (by omega) (by omega)) (fun a ha => by
    rw [kx0 a ha, oth a 1 ha (by omega) (by omega)]
    by_cases c : a = x
    · rw [if_pos c, c, z1]
      constructor
      · intro q
        omega
      · intro q
        omega
    · rw [if_neg c]) hs hez
  have tf : TF B := fun n' s' a b c e => by
    rw [hse n' s' a b] at e
    obtain ⟨k, k1, k2⟩ := g3 n' s' a b c e
    exact ⟨k, k1, by rw [hse n' _ a (chS_ok b c k1).1]; exact k2⟩
  have nf : NF B := NFa_cg hnf kx0 (fun m hm => oth m 3 hm (by omega) (by omega)) (fun m hm => oth m 2 hm (by omega) (by omega)) e1
  have k2B : ∀ m, m < 64 → nd B m 0 = 2 → m ≠ x ∧ nd B1 m 0 = 2 := fun m hm q => by
    rw [kx0 m hm] at q
    by_cases c : m = x
    · rw [if_pos c] at q
      omega
    · rw [if_neg c] at q
      exact ⟨c, q⟩
  refine ⟨S, ⟨S.ok, S.ti, tf, ⟨fun a ha ka => ?_, fun a b ha ka hb hne => ?_, fun m hm km => ?_, fun m hm km i hi hsz => ?_, di5 S.ti tf⟩, nf, fun a ha ka => ?_⟩, kr⟩
  · have fP := (nf.2.2.2.2 a ha ka).2.1
    obtain ⟨ax, ka⟩ := k2B a ha ka
    obtain ⟨q1, q2, q3⟩ := g4.1 a ha ka
    have ba := (nd_k g1.ok ha).2.1
    rw [oth a 1 ha (by omega) (by omega)]
    exact ⟨q1, fP, fun i hi => by rw [hs a i ha (by omega)]; exact q3 i hi⟩
  · have vB : ev B a b ≠ 64 := by rw [ev_at ha ka hb]; exact hne
    have fE := (nf.2.1 a b vB).2.2.2.2
    rw [ev_at ha ka hb] at fE
    obtain ⟨ax, ka⟩ := k2B a ha ka
    have hb' : b < eAll B1 a := by
      unfold eAll at hb ⊢
      rw [oth a 1 ha (by omega) (by omega)] at hb
      exact hb
    obtain ⟨f1, f2⟩ := e2 a b ha (eA_lt g1.ok ha hb').2
    rw [f1] at hne
    refine ⟨fE, ?_⟩
    rw [f2]
    exact (g4.2.1 a b ha ka hb' hne).2
  · rw [kx0 m hm] at km
    by_cases c : m = x
    · rw [if_pos c] at km
      omega
    · rw [if_neg c] at km
      rw [oth m 1 hm (by omega) (by omega), oth m 4 hm (by omega) (by omega)]
      exact g4.2.2.1 m hm km
  · rw [kx0 m hm] at km
    by_cases c : m = x
    · rw [if_pos c] at km
      omega
    · rw [if_neg c] at km
      rw [oth m 1 hm (by omega) (by omega)] at hsz
      rw [hs m i hm hi]
      exact g4.2.2.2.1 m hm km i hi hsz
  · obtain ⟨ax, ka⟩ := k2B a ha ka
    obtain ⟨s1, s2⟩ := hsf a ha ax ka
    rw [oth a 1 ha (by omega) (by omega)]
    refine ⟨s1, fun q => ?_⟩
    obtain ⟨b, b1, b2⟩ := s2 q
    refine ⟨b, ?_, by rw [e1 a b]; exact b2⟩
    unfold eAll at b1 ⊢
    rw [oth a 1 ha (by omega) (by omega)]
    exact b1
/-- a directory that is empty goes -/
theorem PH_rmd (h : SR bi w C A) (hP : PH t w A) (hd : d < 64) (h2 : nd A d 0 = 2) (hk : k < eAll A d) (hx : eN A d k = x) (hx64 : x ≠ 64) (hkx : nd A x 0 = 2) (hz : nd A x 1 = 0) :
    SR bi w (disC (rmEn C d k) x) (setN (remA A d k) x 0 0) ∧ PH t w (setN (remA A d k) x 0 0) ∧ KR A (setN (remA A d k) x 0 0) ∧ SR bi w (rmEn C d k) (remA A d k) := by
  obtain ⟨p1, p2, p3, p4, p5, p6⟩ := id hP
  obtain ⟨g1, g3, g4, g5, g6, g7, g8⟩ := rem_all h p3 p4 hd h2 hk
  have xl : x < 64 := by
    have := eN_lt p1 d k
    omega
  have ex : ev A d k = x := by rw [ev_at hd h2 hk]; exact hx
  have em := (dir_empty hP xl hkx).mp hz
  have xd : x ≠ d := fun e => by
    have := em k
    rw [e] at this
    rw [this] at ex
    exact hx64 ex.symm
  generalize remA A d k = B1 at *
  have K0 : ∀ m, m < 64 → nd B1 m 0 = nd A m 0 := fun m hm => g6 m 0 hm (by omega) (by omega)
  have nf := NF_rmd (K' := fun m => if m = x then 0 else nd A m 0) (E' := ev B1) p5 ex hx64 hkx em (fun _ _ => rfl) g8
  obtain ⟨a1, a2, a3⟩ := PH_fd (t := t) g1 g3 g4 xl (by rw [K0 x xl]; exact hkx) (by rw [g6 x 1 xl (by omega) (fun q => xd q.1)]; exact hz)
    (NFa_cg nf (fun m hm => by
      show (if m = x then 0 else nd B1 m 0) = if m = x then 0 else nd A m 0
      rw [K0 m hm]) (fun m hm => g6 m 3 hm (by omega) (by omega)) (fun m hm => g6 m 2 hm (by omega) (by omega)) (fun _ _ => rfl))
    (fun a ha ax ka => SF_rem (B := B1) (d := d) p6 hd (fun m hm q => by rw [K0 m hm] at q; exact q) (fun a ha c => g6 a 1 ha (by omega) (fun y => c y.1)) g7 (fun a b c _ => by rw [g8 a b, if_neg (fun y => c y.1)]) a ha ka)
  exact ⟨a1, a2, KR_t g5 a3, g1⟩
/-- a directory's parent, where the node is one -/
def paC (C : tS) (n e : Nat) : tS := if kiC C n = 2 then shC C n (kiC C n) (naC C n) e (szC C n) else C
theorem rnP_fx (g1 : SR bi w X B1) (g3 : TF B1) (g4 : DI w B1) (hn : n < 64) (hn0 : nd B1 n 0 ≠ 0) (he : e < 64) (h2 : nd B1 e 0 = 2) :
    SR bi w (paC X n e) (rnP B1 n e) ∧ TF (rnP B1 n e) ∧ DI w (rnP B1 n e) ∧ (∀ a b, ev (rnP B1 n e) a b = ev B1 a b) ∧ KR B1 (rnP B1 n e) ∧ (∀ m i, i < 85 → nd (rnP B1 n e) m i = if m = n ∧ i = 3 ∧ nd B1 n 0 = 2 then e else nd B1 m i) := by
  have k0 := (hd_c g1.ok g1.mr hn).1
  unfold rnP paC
  rw [k0]
  by_cases c : nd B1 n 0 = 2
  · rw [if_pos c, if_pos c]
    have S := SR_par (v := e) g1 hn hn0 he
    rw [k0] at S
    obtain ⟨y1, y2, y3, y4, y5⟩ := nn_fx (v := e) hn (Or.inr rfl) g1.ok g4 g3 S.ti (fun _ _ => ⟨he, h2⟩)
    refine ⟨S, y2, y3, y4, y5, fun m i hi => ?_⟩
    rw [y1 m i (by omega)]
    by_cases q : m = n ∧ i = 3
    · rw [if_pos q, if_pos ⟨q.1, q.2, c⟩]
    · rw [if_neg q, if_neg (fun y => q ⟨y.1, y.2.1⟩)]
  · rw [if_neg c, if_neg c]
    exact ⟨g1, g3, g4, fun _ _ => rfl, KR_r, fun m i _ => by rw [if_neg (fun y => c y.2.2)]⟩
/-- moved to where nothing was -/
theorem PH_rn0 (h : SR bi w C A) (hP : PH t w A) (ht : t < 1000) (hd : d < 64) (h2 : nd A d 0 = 2) (hk : k < eAll A d) (hx : eN A d k = n) (hx64 : n ≠ 64) (he : e < 64) (he2 : nd A e 0 = 2) (hbw : nd A n 0 = 2 → bwA A n 64 e = false)
    (hf : ffA A e = eAll A e → obN C e (ffA A e / 8) ≤ fre A) (h34 : A 35 34 + 3 < 1000000) (hp : rwO o) (hl1 : 1 ≤ l) (hl : l ≤ 28) (hc : ∀ i, i < l → C o (st + i) < 128) :
    ∃ bi' w', SR bi' w' (rmEn (paC (adEn C e o st l n) n e) d k) (remA (rnP (addA A e (fun i => C o (st + i)) l n) n e) d k) ∧ (∀ x, bi x ≠ 0 → bi' x = bi x) ∧ PH (t + 1) w' (remA (rnP (addA A e (fun i => C o (st + i)) l n) n e) d k) ∧ KR A (remA (rnP (addA A e (fun i => C o (st + i)) l n) n e) d k) ∧
      k < eAll (rnP (addA A e (fun i => C o (st + i)) l n) n e) d ∧ SR bi' w' (adEn C e o st l n) (addA A e (fun i => C o (st + i)) l n) ∧ SR bi' w' (paC (adEn C e o st l n) n e) (rnP (addA A e (fun i => C o (st + i)) l n) n e) := by
  obtain ⟨p1, p2, p3, p4, p5, p6⟩ := id hP
  have nl : n < 64 := by
    have := eN_lt p1 d k
    omega
  have n0 := (p4.2.1 d k hd h2 hk (by omega)).1
  rw [hx] at n0
  have ex : ev A d k = n := by rw [ev_at hd h2 hk]; exact hx
  obtain ⟨t1, t2⟩ := ff_t hP he he2 ht
  obtain ⟨bi', w', g1, g2, g3, g4, g5, g6, g7, g8, g9⟩ := add_all (o := o) (st := st) (l := l) (v := n) h p3 p4 he he2 t1 hf h34 hp hl1 hl hc nl n0
  generalize addA A e (fun i => C o (st + i)) l n = B1 at *
  generalize adEn C e o st l n = X1 at *
  have K0 : ∀ m, m < 64 → nd B1 m 0 = nd A m 0 := fun m hm => g6 m 0 hm (by omega) (by omega)
  obtain ⟨y1, y2, y3, y4, y5, y6⟩ := rnP_fx g1 g3 g4 nl (by rw [K0 n nl]; exact n0) he (by rw [K0 e he]; exact he2)
  generalize rnP B1 n e = B2 at *
  generalize paC X1 n e = X2 at *
  have L0 : ∀ m, m < 64 → nd B2 m 0 = nd A m 0 := fun m hm => by rw [y6 m 0 (by omega), if_neg (by omega), K0 m hm]
  have L1 : ∀ m, nd B2 m 1 = nd B1 m 1 := fun m => by rw [y6 m 1 (by omega), if_neg (by omega)]
  have kB : k < eAll B2 d := by
    unfold eAll at hk ⊢
    rw [L1 d]
    by_cases c : d = e
    · rw [c] at hk ⊢
      rcases g7 with ⟨-, q⟩ | ⟨-, q⟩ <;> rw [q] <;> omega
    · rw [g6 d 1 hd (by omega) (fun q => c q.1)]
      exact hk
  obtain ⟨z1, z3, z4, z5, z6, z7, z8⟩ := rem_all y1 y2 y3 hd (by rw [L0 d hd]; exact h2) kB
  generalize remA B2 d k = B3 at *
  have M0 : ∀ m, m < 64 → nd B3 m 0 = nd A m 0 := fun m hm => by rw [z6 m 0 hm (by omega) (by omega), L0 m hm]
  have e8 : ∀ a b, ev B3 a b = if a = d ∧ b = k then 64 else if a = e ∧ b = ffA A e then n else ev A a b := fun a b => by rw [z8 a b, y4 a b, g8 a b]
  have sf1 : SF (t + 1) B1 := SF_add (v := n) (k := ffA A e) (d := e) p6 nl he he2 (fun m hm q => Or.inl (by rw [K0 m hm] at q; exact q)) (fun a ha _ c => g6 a 1 ha (by omega) (fun y => c y.1)) g7 g8
  have sf2 : SF (t + 1) B2 := fun a ha ka => by
    rw [L0 a ha, ← K0 a ha] at ka
    obtain ⟨s1, s2⟩ := sf1 a ha ka
    rw [L1 a]
    refine ⟨s1, fun q => ?_⟩
    obtain ⟨b, b1, b2⟩ := s2 q
    refine ⟨b, ?_, by rw [y4 a b]; exact b2⟩
    unfold eAll at b1 ⊢
    rw [L1 a]
    exact b1
  refine ⟨bi', w', z1, g2, ⟨z1.ok, z1.ti, z3, z4, ?_, ?_⟩, KR_t g5 (KR_t y5 z5), kB, g1, y1⟩
  · have := NF_mov (P' := fun m => nd B3 m 3) (E' := ev B3) p5 ex hx64 he he2 t2 g9 (fun kn => by
      obtain ⟨z, zl, zz⟩ := it_near p5 he he2
      exact bw_no (A := A) (n := n) (P := fun m => nd A m 3) (fun _ => rfl) 64 e (bw_ok (fun _ => rfl) z 64 e zz (by omega)) (hbw kn)) (fun m hm => by
      show nd B3 m 3 = if m = n ∧ nd A n 0 = 2 then e else nd A m 3
      rw [z6 m 3 hm (by omega) (by omega), y6 m 3 (by omega), K0 n nl]
      by_cases c : m = n ∧ nd A n 0 = 2
      · rw [if_pos ⟨c.1, rfl, c.2⟩, if_pos c]
      · rw [if_neg (fun q => c ⟨q.1, q.2.2⟩), if_neg c]
        exact g6 m 3 hm (by omega) (by omega)) e8
    exact NFa_cg this M0 (fun _ _ => rfl) (fun m hm => by
      show nd B3 m 2 = nd A m 2
      rw [z6 m 2 hm (by omega) (by omega), y6 m 2 (by omega), if_neg (by omega)]
      exact g6 m 2 hm (by omega) (by omega)) (fun _ _ => rfl)
  · exact SF_rem (d := d) sf2 hd (fun m hm q => by rw [M0 m hm, ← L0 m hm] at q; exact q) (fun a ha c => z6 a 1 ha (by omega) (fun y => c y.1)) z7 (fun a b c _ => by rw [z8 a b, if_neg (fun y => c y.1)])
end PHN
