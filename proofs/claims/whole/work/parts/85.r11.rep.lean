/-! ===== PURE: the tree's form: an entry moved to the place of another ===== -/
section PHR
variable {bi : Nat → Nat} {w w' : Nat → Nat × Nat} {C C' X A A' B B1 : tS} {t n m k d r x j v o st l e k2 : Nat}
/-- an entry leads to another node -/
theorem put_fx {nm : Nat → Nat} (hS : SR bi w C A) (hS' : SR bi w X (add2 A e k2 nm l n)) (hD : DI w A) (hF : TF A) (he : e < 64) (he2 : nd A e 0 = 2) (hk2 : k2 < eAll A e) (hn : n < 64) (hn0 : nd A n 0 ≠ 0) (hl1 : 1 ≤ l) (hl : l ≤ 28) :
    TF (add2 A e k2 nm l n) ∧ DI w (add2 A e k2 nm l n) ∧ KR A (add2 A e k2 nm l n) ∧ (∀ m i, m < 64 → i < 95 → nd (add2 A e k2 nm l n) m i = nd A m i) ∧ (∀ a b, ev (add2 A e k2 nm l n) a b = if a = e ∧ b = k2 then n else ev A a b) := by
  obtain ⟨l1, l2⟩ := eA_lt hS.ok he hk2
  have z3 := (hD.1 e he he2).2.2
  obtain ⟨r, hr⟩ : ∃ r, hasA A e (k2 / 8) = r + 1 := ⟨hasA A e (k2 / 8) - 1, by have := z3 _ l1; omega⟩
  obtain ⟨y1, y2, y3, y4⟩ := add2_fx (v := n) (nm := nm) hS.ti he l2 hr hl
  generalize add2 A e k2 nm l n = B at *
  have hs : ∀ a i, a < 64 → i < 1064 → hasA B a i = hasA A a i := fun a i ha hi => by
    have := y2 a i ha (Or.inl hi)
    rwa [hs_slo hi, hs_slo hi] at this
  have eA : ∀ a, a < 64 → eAll B a = eAll A a := fun a ha => by
    unfold eAll
    rw [y1 a 1 ha (by omega)]
  have tf : TF B := fun n' s' a b c q => by
    rw [y2 n' s' a b] at q
    obtain ⟨k, k1, k2⟩ := hF n' s' a b c q
    exact ⟨k, k1, by rw [y2 n' _ a (chS_ok b c k1).1]; exact k2⟩
  have ent : ∀ a b, a < 64 → nd A a 0 = 2 → b < eAll A a → eN B a b = (if a = e ∧ b = k2 then n else eN A a b) ∧ eL B a b = if a = e ∧ b = k2 then l else eL A a b := fun a b ha ka hb => by
    obtain ⟨m1, m2⟩ := eA_lt hS.ok ha hb
    exact y4 a b ha m2 ((hD.1 a ha ka).2.2 _ m1)
  refine ⟨tf, ⟨fun a ha ka => ?_, fun a b ha ka hb hne => ?_, fun m hm km => ?_, fun m hm km i hi hsz => ?_, di5 hS'.ti tf⟩, y3, y1, fun a b => ?_⟩
  · rw [y1 a 0 ha (by omega)] at ka
    obtain ⟨q1, q2, q3⟩ := hD.1 a ha ka
    have ba := (nd_k hS.ok ha).2.1
    have bp := (nd_k hS.ok ha).2.2.2.1
    rw [y1 a 1 ha (by omega), y1 a 3 ha (by omega), y1 _ 0 bp (by omega)]
    exact ⟨q1, q2, fun i hi => by rw [hs a i ha (by omega)]; exact q3 i hi⟩
  · rw [y1 a 0 ha (by omega)] at ka
    rw [eA a ha] at hb
    obtain ⟨f1, f2⟩ := ent a b ha ka hb
    rw [f1] at hne ⊢
    rw [f2]
    by_cases c : a = e ∧ b = k2
    · rw [if_pos c, if_pos c, y1 n 0 hn (by omega)]
      exact ⟨hn0, hl1⟩
    · rw [if_neg c] at hne ⊢
      rw [if_neg c]
      have l := eN_lt hS.ok a b
      rw [y1 _ 0 (by omega) (by omega)]
      exact hD.2.1 a b ha ka hb hne
  · rw [y1 m 0 hm (by omega)] at km
    rw [y1 m 1 hm (by omega), y1 m 4 hm (by omega)]
    exact hD.2.2.1 m hm km
  · rw [y1 m 0 hm (by omega)] at km
    rw [y1 m 1 hm (by omega)] at hsz
    rw [hs m i hm hi]
    exact hD.2.2.2.1 m hm km i hi hsz
  · by_cases ha : a < 64
    · unfold ev
      rw [y1 a 0 ha (by omega), eA a ha]
      by_cases q : a < 64 ∧ nd A a 0 = 2 ∧ b < eAll A a
      · rw [if_pos q, if_pos q]
        exact (ent a b ha q.2.1 q.2.2).1
      · rw [if_neg q, if_neg q, if_neg (fun y => q (by rw [y.1, y.2]; exact ⟨he, he2, hk2⟩))]
    · rw [ev_64 ha, ev_64 ha, if_neg (fun y => ha (by rw [y.1]; exact he))]
/-- moved to the place of another: up to where the other loses its name -/
theorem PH_rn1 (h : SR bi w C A) (hP : PH t w A) (hd : d < 64) (h2 : nd A d 0 = 2) (hk : k < eAll A d) (hx : eN A d k = n) (hx64 : n ≠ 64) (he : e < 64) (he2 : nd A e 0 = 2) (hk2 : k2 < eAll A e) (hy : eN A e k2 = x) (hy64 : x ≠ 64) (hxn : x ≠ n) (hbw : nd A n 0 = 2 → bwA A n 64 e = false) (hkd : (nd A n 0 = 2 ∧ nd A x 0 = 2 ∧ nd A x 1 = 0) ∨ (nd A n 0 ≠ 2 ∧ nd A x 0 ≠ 2))
    (ho : o ≠ 11) (hl1 : 1 ≤ l) (hl : l ≤ 28) (hc : ∀ i, i < l → C o (st + i) < 128) (e1 : A 36 (ex A e k2 1) = l) (e2 : ∀ j, j < l → A 36 (ex A e k2 (2 + j)) = C o (st + j)) :
    SR bi w (rmEn (paC (seE C e k2 o st l n) n e) d k) (remA (rnP (putE A e k2 n) n e) d k) ∧ KR A (remA (rnP (putE A e k2 n) n e) d k) ∧ (∀ m i, m < 64 → i < 3 → i ≠ 1 → nd (remA (rnP (putE A e k2 n) n e) d k) m i = nd A m i) ∧ k < eAll (rnP (putE A e k2 n) n e) d ∧ SR bi w (seE C e k2 o st l n) (putE A e k2 n) ∧ SR bi w (paC (seE C e k2 o st l n) n e) (rnP (putE A e k2 n) n e) ∧
      (nd A x 0 = 2 → SR bi w (disC (rmEn (paC (seE C e k2 o st l n) n e) d k) x) (setN (remA (rnP (putE A e k2 n) n e) d k) x 0 0) ∧ PH t w (setN (remA (rnP (putE A e k2 n) n e) d k) x 0 0)) ∧
      (nd A x 0 ≠ 2 → 1 ≤ nd A x 2 ∧ SR bi w ((fun Y => shC Y x (kiC Y x) (nd A x 2 - 1) (prC Y x) (szC Y x)) (rmEn (paC (seE C e k2 o st l n) n e) d k)) (setN (remA (rnP (putE A e k2 n) n e) d k) x 2 (nd A x 2 - 1)) ∧ PH t w (setN (remA (rnP (putE A e k2 n) n e) d k) x 2 (nd A x 2 - 1))) := by
  obtain ⟨p1, p2, p3, p4, p5, p6⟩ := id hP
  have nl : n < 64 := by
    have := eN_lt p1 d k
    omega
  have xl : x < 64 := by
    have := eN_lt p1 e k2
    omega
  have n0 := (p4.2.1 d k hd h2 hk (by omega)).1
  rw [hx] at n0
  have x0 := (p4.2.1 e k2 he he2 hk2 (by omega)).1
  rw [hy] at x0
  have kA : nd A x 0 = 2 → nd A n 0 = 2 ∧ nd A x 1 = 0 := fun q => by
    rcases hkd with ⟨a, b, c⟩ | ⟨a, b⟩
    · exact ⟨a, c⟩
    · exact absurd q b
  have kN : nd A x 0 ≠ 2 → nd A n 0 ≠ 2 := fun q => by
    rcases hkd with ⟨a, b, c⟩ | ⟨a, b⟩
    · exact absurd b q
    · exact a
  have k13 : nd A x 0 ≠ 2 → nd A x 0 = 1 ∨ nd A x 0 = 3 := fun q => by
    have := (nd_k p1 xl).1
    omega
  have ex : ev A d k = n := by rw [ev_at hd h2 hk]; exact hx
  have ey : ev A e k2 = x := by rw [ev_at he he2 hk2]; exact hy
  have ne : ¬ (d = e ∧ k = k2) := fun q => by
    rw [q.1, q.2, ey] at ex
    exact hxn ex
  have k28 : k2 < 8512 := (p5.2.1 e k2 (by rw [ey]; exact hy64)).2.1
  obtain ⟨l1, l2⟩ := eA_lt p1 he hk2
  obtain ⟨r, hr⟩ : ∃ r, hasA A e (k2 / 8) = r + 1 := ⟨hasA A e (k2 / 8) - 1, by have := (p4.1 e he he2).2.2 _ l1; omega⟩
  have g1 := SR_pte h he he2 l2 hr ho hl hc nl e1 e2
  have ad : add2 A e k2 (fun i => C o (st + i)) l n = putE A e k2 n := add2_id e1 e2
  have fx := put_fx (nm := fun i => C o (st + i)) h (by rw [ad]; exact g1) p4 p3 he he2 hk2 nl n0 hl1 hl
  rw [ad] at fx
  obtain ⟨g3, g4, g5, g6, g8⟩ := fx
  generalize putE A e k2 n = B1 at *
  generalize seE C e k2 o st l n = X1 at *
  have K0 : ∀ m, m < 64 → nd B1 m 0 = nd A m 0 := fun m hm => g6 m 0 hm (by omega)
  obtain ⟨y1, y2, y3, y4, y5, y6⟩ := rnP_fx g1 g3 g4 nl (by rw [K0 n nl]; exact n0) he (by rw [K0 e he]; exact he2)
  generalize rnP B1 n e = B2 at *
  generalize paC X1 n e = X2 at *
  have L0 : ∀ m, m < 64 → nd B2 m 0 = nd A m 0 := fun m hm => by rw [y6 m 0 (by omega), if_neg (by omega), K0 m hm]
  have L1 : ∀ m, m < 64 → nd B2 m 1 = nd A m 1 := fun m hm => by rw [y6 m 1 (by omega), if_neg (by omega), g6 m 1 hm (by omega)]
  have kB : k < eAll B2 d := by
    unfold eAll at hk ⊢
    rw [L1 d hd]
    exact hk
  obtain ⟨z1, z3, z4, z5, z6, z7, z8⟩ := rem_all y1 y2 y3 hd (by rw [L0 d hd]; exact h2) kB
  generalize remA B2 d k = B3 at *
  have M0 : ∀ m, m < 64 → nd B3 m 0 = nd A m 0 := fun m hm => by rw [z6 m 0 hm (by omega) (by omega), L0 m hm]
  have M2 : ∀ m, m < 64 → nd B3 m 2 = nd A m 2 := fun m hm => by rw [z6 m 2 hm (by omega) (by omega), y6 m 2 (by omega), if_neg (by omega), g6 m 2 hm (by omega)]
  have M3 : ∀ m, m < 64 → nd B3 m 3 = if m = n ∧ nd A n 0 = 2 then e else nd A m 3 := fun m hm => by
    rw [z6 m 3 hm (by omega) (by omega), y6 m 3 (by omega), K0 n nl]
    by_cases c : m = n ∧ nd A n 0 = 2
    · rw [if_pos ⟨c.1, rfl, c.2⟩, if_pos c]
    · rw [if_neg (fun q => c ⟨q.1, q.2.2⟩), if_neg c]
      exact g6 m 3 hm (by omega)
  have e8 : ∀ a b, ev B3 a b = if a = d ∧ b = k then 64 else if a = e ∧ b = k2 then n else ev A a b := fun a b => by rw [z8 a b, y4 a b, g8 a b]
  have sf2 : SF t B2 := fun a ha ka => by
    rw [L0 a ha] at ka
    obtain ⟨s1, s2⟩ := p6 a ha ka
    rw [L1 a ha]
    refine ⟨s1, fun q => ?_⟩
    obtain ⟨b, b1, b2⟩ := s2 q
    refine ⟨b, ?_, ?_⟩
    · unfold eAll at b1 ⊢
      rw [L1 a ha]
      exact b1
    · rw [y4 a b, g8 a b]
      split
      · exact hx64
      · exact b2
  have sf3 : SF t B3 := SF_rem (d := d) sf2 hd (fun m hm q => by rw [M0 m hm, ← L0 m hm] at q; exact q) (fun a ha c => z6 a 1 ha (by omega) (fun y => c y.1)) z7 (fun a b c _ => by rw [z8 a b, if_neg (fun y => c y.1)])
  have chain : nd A n 0 = 2 → ∃ z, itE (fun m => nd A m 3) z e = 0 ∧ ∀ j, j ≤ z → itE (fun m => nd A m 3) j e ≠ n := fun kn => by
    obtain ⟨z, zl, zz⟩ := it_near p5 he he2
    exact bw_no (A := A) (n := n) (P := fun m => nd A m 3) (fun _ => rfl) 64 e (bw_ok (fun _ => rfl) z 64 e zz (by omega)) (hbw kn)
  have dk : (if d = e ∧ k = k2 then 64 else ev A d k) = n := by rw [if_neg ne]; exact ex
  have ek : (if e = e ∧ k2 = k2 then 64 else ev A e k2) = 64 := if_pos ⟨rfl, rfl⟩
  have e9 : ∀ a b, ev B3 a b = if a = d ∧ b = k then 64 else if a = e ∧ b = k2 then n else (if a = e ∧ b = k2 then 64 else ev A a b) := fun a b => by
    rw [e8 a b]
    by_cases c1 : a = d ∧ b = k
    · rw [if_pos c1, if_pos c1]
    · rw [if_neg c1, if_neg c1]
      by_cases c2 : a = e ∧ b = k2
      · rw [if_pos c2, if_pos c2]
      · rw [if_neg c2, if_neg c2, if_neg c2]
  refine ⟨z1, KR_t g5 (KR_t y5 z5), fun m i hm hi q => ?_, kB, g1, y1, fun kx => ?_, fun kx => ?_⟩
  · have : i = 0 ∨ i = 2 := by omega
    rcases this with rfl | rfl
    · exact M0 m hm
    · exact M2 m hm
  · have kn : nd A n 0 = 2 ∧ nd A x 1 = 0 := kA kx
    have em := (dir_empty hP xl kx).mp kn.2
    have xd : x ≠ d := fun q => by
      have := em k
      rw [q, ex] at this
      exact hx64 this
    have xe : x ≠ e := fun q => by
      have := em k2
      rw [q, ey] at this
      exact hy64 this
    have nf1 := NF_rmd (K' := fun m => if m = x then 0 else nd A m 0) (E' := fun a b => if a = e ∧ b = k2 then 64 else ev A a b) p5 ey hy64 kx em (fun _ _ => rfl) (fun _ _ => rfl)
    have nf2 := NF_mov (P' := fun m => nd B3 m 3) (E' := ev B3) (d := d) (k := k) (n := n) (e := e) (k2 := k2) nf1 dk hx64 he (by show (if e = x then 0 else nd A e 0) = 2; rw [if_neg (fun q => xe q.symm)]; exact he2) k28 ek (fun _ => chain kn.1) (fun m hm => by
      show nd B3 m 3 = if m = n ∧ (if n = x then 0 else nd A n 0) = 2 then e else nd A m 3
      have en : (if n = x then 0 else nd A n 0) = nd A n 0 := if_neg (fun q => hxn q.symm)
      rw [en]
      exact M3 m hm) e9
    have nx1 : nd B3 x 1 = 0 := by
      rw [z6 x 1 xl (by omega) (fun q => xd q.1), L1 x xl]
      exact kn.2
    obtain ⟨a1, a2, a3⟩ := PH_fd (t := t) z1 z3 z4 xl (by rw [M0 x xl]; exact kx) nx1 (NFa_cg nf2 (fun m hm => by
      show (if m = x then 0 else nd B3 m 0) = if m = x then 0 else nd A m 0
      rw [M0 m hm]) (fun _ _ => rfl) (fun m hm => M2 m hm) (fun _ _ => rfl)) (fun a ha _ ka => sf3 a ha ka)
    exact ⟨a1, a2⟩
  · have kx13 : nd A x 0 = 1 ∨ nd A x 0 = 3 := k13 kx
    have kn : nd A n 0 ≠ 2 := kN kx
    have N1 : 1 ≤ nd A x 2 ∧ nd A x 2 ≤ 200 := by
      obtain ⟨c1, c2⟩ := p5.2.2.1 x xl kx13
      have c1 : nd A x 2 = ecE (ev A) x := c1
      have := ec_pos (E := ev A) he k28 ey
      exact ⟨by omega, c2⟩
    have S := SR_nam (v := nd A x 2 - 1) z1 xl (by rw [M0 x xl]; exact x0) (by omega)
    obtain ⟨u1, u2, u3, u4, u5⟩ := nn_fx (v := nd A x 2 - 1) xl (Or.inl rfl) z1.ok z4 z3 S.ti (fun q => by omega)
    refine ⟨N1.1, S, S.ok, S.ti, u2, u3, ?_, fun a ha ka => ?_⟩
    · have nf1 := NF_unl (N' := fun m => if m = x then nd A x 2 - 1 else nd A m 2) (E' := fun a b => if a = e ∧ b = k2 then 64 else ev A a b) p5 ey hy64 kx13 (fun _ _ => rfl) (fun _ _ => rfl)
      have nf2 := NF_mov (P' := fun m => nd B3 m 3) (E' := ev B3) (d := d) (k := k) (n := n) (e := e) (k2 := k2) nf1 dk hx64 he he2 k28 ek (fun q => absurd q kn) (fun m hm => M3 m hm) e9
      refine NFa_cg nf2 (fun m hm => ?_) (fun m hm => ?_) (fun m hm => ?_) u4
      · show nd (setN B3 x 2 (nd A x 2 - 1)) m 0 = nd A m 0
        rw [u1 m 0 (by omega), if_neg (by omega), M0 m hm]
      · show nd (setN B3 x 2 (nd A x 2 - 1)) m 3 = nd B3 m 3
        rw [u1 m 3 (by omega), if_neg (by omega)]
      · show nd (setN B3 x 2 (nd A x 2 - 1)) m 2 = if m = x then nd A x 2 - 1 else nd A m 2
        rw [u1 m 2 (by omega)]
        by_cases c : m = x
        · rw [if_pos ⟨c, rfl⟩, if_pos c]
        · rw [if_neg (fun q => c q.1), if_neg c, M2 m hm]
    · rw [u1 a 0 (by omega), if_neg (by omega)] at ka
      obtain ⟨s1, s2⟩ := sf3 a ha ka
      rw [u1 a 1 (by omega), if_neg (by omega)]
      refine ⟨s1, fun q => ?_⟩
      obtain ⟨b, b1, b2⟩ := s2 q
      refine ⟨b, ?_, by rw [u4 a b]; exact b2⟩
      unfold eAll at b1 ⊢
      rw [u1 a 1 (by omega), if_neg (by omega)]
      exact b1
end PHR
