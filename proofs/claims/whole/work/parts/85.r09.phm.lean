/-! ===== PURE: the tree's form: nodes made, linked, unlinked, directories removed ===== -/
section PHM
variable {bi : Nat → Nat} {w w' : Nat → Nat × Nat} {C C' X A A' B : tS} {t n m k d r x j v o st l : Nat}
theorem ff_cg (h1 : nd B d 1 = nd A d 1) (he : ∀ k, k < eAll A d → eN B d k = eN A d k) : ffA B d = ffA A d ∧ eAll B d = eAll A d := by
  have e : eAll B d = eAll A d := by
    unfold eAll
    rw [h1]
  refine ⟨?_, e⟩
  unfold ffA
  rw [e]
  exact sr_cong _ _ (fun i _ hi => by rw [he i (by omega)])
theorem ff_t (hP : PH t w A) (hd : d < 64) (h2 : nd A d 0 = 2) (ht : t < 1000) : ffA A d / 8 < 1063 ∧ ffA A d < 8512 := by
  have := ff_le (A := A) (d := d)
  have s := (hP.sf d hd h2).1
  unfold eAll at this
  omega
/-- a node and its entry -/
theorem PH_new (h : SR bi w C A) (hP : PH t w A) (ht : t < 1000) (hn : n < 64) (h0 : nd A n 0 = 0) (hd : d < 64) (h2 : nd A d 0 = 2) (hv : v = 1 ∨ v = 2 ∨ v = 3) (hS : SR bi w C' A')
    (h36 : ∀ j, ¬ (n * 95 ≤ j ∧ j < n * 95 + 85) → A' 36 j = A 36 j) (b0 : nd A' n 0 = v) (b1 : nd A' n 1 = 0) (b2 : v ≠ 2 → nd A' n 2 = 1) (b3 : v = 2 → nd A' n 3 = d) (b4 : v = 3 → 1 ≤ nd A' n 4) (hkr : KR A A')
    (hf : ffA A' d = eAll A' d → obN C' d (ffA A' d / 8) ≤ fre A') (h34 : A' 35 34 + 3 < 1000000) (hp : rwO o) (hl1 : 1 ≤ l) (hl : l ≤ 28) (hc : ∀ i, i < l → C' o (st + i) < 128) :
    ∃ bi' w', SR bi' w' (adEn C' d o st l n) (addA A' d (fun i => C' o (st + i)) l n) ∧ (∀ x, bi x ≠ 0 → bi' x = bi x) ∧ PH (t + 1) w' (addA A' d (fun i => C' o (st + i)) l n) ∧ KR A (addA A' d (fun i => C' o (st + i)) l n) := by
  obtain ⟨p1, p2, p3, p4, p5, p6⟩ := id hP
  obtain ⟨tf, di, ee⟩ := new_fx hn h0 p1 p2 p4 p3 hS.ti hd h2 hv h36 b0 b1 b3 b4
  have oth : ∀ m i, m < 64 → i < 95 → m ≠ n → nd A' m i = nd A m i := fun m i hm hi q => h36 _ (by omega)
  have dn : d ≠ n := fun e => by rw [e] at h2; omega
  have kd : nd A' d 0 = 2 := by rw [oth d 0 hd (by omega) dn]; exact h2
  have e1 : nd A' d 1 = nd A d 1 := oth d 1 hd (by omega) dn
  have eA : eAll A' d = eAll A d := by
    unfold eAll
    rw [e1]
  obtain ⟨f1, -⟩ := ff_cg (B := A') (A := A) e1 (fun k hk => by
    have := ee d k
    rw [ev_at hd kd (by rw [eA]; exact hk), ev_at hd h2 hk] at this
    exact this)
  obtain ⟨t1, t2⟩ := ff_t hP hd h2 ht
  obtain ⟨bi', w', g1, g2, g3, g4, g5, g6, g7, g8, g9⟩ := add_all (o := o) (st := st) (l := l) (v := n) hS tf di hd kd (by rw [f1]; exact t1) hf h34 hp hl1 hl hc hn (by rw [b0]; omega)
  generalize addA A' d (fun i => C' o (st + i)) l n = B at *
  rw [f1] at g7 g8 g9
  refine ⟨bi', w', g1, g2, ⟨g1.ok, g1.ti, g3, g4, ?_, ?_⟩, KR_t hkr g5⟩
  · refine NF_new (K' := fun m => nd B m 0) (P' := fun m => nd B m 3) (N' := fun m => nd B m 2) p5 hn h0 hv hd h2 t2 (by rw [← ee]; exact g9) (fun m hm => ?_) (fun m hm q => ?_) (fun q => ?_) (fun m hm q => ?_) (fun q => ?_) (fun a b => by rw [g8 a b, ee])
    · show nd B m 0 = _
      rw [g6 m 0 hm (by omega) (by omega)]
      by_cases c : m = n
      · rw [if_pos c, c, b0]
      · rw [if_neg c]
        exact oth m 0 hm (by omega) c
    · show nd B m 3 = nd A m 3
      rw [g6 m 3 hm (by omega) (by omega)]
      exact oth m 3 hm (by omega) q
    · show nd B n 3 = d
      rw [g6 n 3 hn (by omega) (by omega)]
      exact b3 q
    · show nd B m 2 = nd A m 2
      rw [g6 m 2 hm (by omega) (by omega)]
      exact oth m 2 hm (by omega) q
    · show nd B n 2 = 1
      rw [g6 n 2 hn (by omega) (by omega)]
      exact b2 q
  · refine SF_add (v := n) (k := ffA A d) (d := d) p6 hn hd h2 (fun m hm q => ?_) (fun a ha q c => ?_) (by rw [eA, e1] at g7; exact g7) (fun a b => by rw [g8 a b, ee])
    · by_cases c : m = n
      · refine Or.inr ?_
        rw [c, g6 n 1 hn (by omega) (fun y => dn y.1.symm)]
        exact b1
      · refine Or.inl ?_
        rw [g6 m 0 hm (by omega) (by omega), oth m 0 hm (by omega) c] at q
        exact q
    · have an : a ≠ n := fun e => by rw [e] at q; omega
      rw [g6 a 1 ha (by omega) (fun y => c y.1)]
      exact oth a 1 ha (by omega) an
/-- a name more -/
theorem PH_link (h : SR bi w C A) (hP : PH t w A) (ht : t < 1000) (hx : x < 64) (hk : nd A x 0 = 1 ∨ nd A x 0 = 3) (hN : nd A x 2 < 200) (hd : d < 64) (h2 : nd A d 0 = 2)
    (hf : ffA A d = eAll A d → obN C d (ffA A d / 8) ≤ fre A) (h34 : A 35 34 + 3 < 1000000) (hp : rwO o) (hl1 : 1 ≤ l) (hl : l ≤ 28) (hc : ∀ i, i < l → C o (st + i) < 128) :
    ∃ bi' w', SR bi' w' ((fun Y => shC Y x (kiC Y x) (nd A x 2 + 1) (prC Y x) (szC Y x)) (adEn C d o st l x)) (setN (addA A d (fun i => C o (st + i)) l x) x 2 (nd A x 2 + 1)) ∧ (∀ x, bi x ≠ 0 → bi' x = bi x) ∧ PH (t + 1) w' (setN (addA A d (fun i => C o (st + i)) l x) x 2 (nd A x 2 + 1)) ∧ KR A (setN (addA A d (fun i => C o (st + i)) l x) x 2 (nd A x 2 + 1)) ∧ nd (addA A d (fun i => C o (st + i)) l x) x 2 = nd A x 2 := by
  obtain ⟨p1, p2, p3, p4, p5, p6⟩ := id hP
  obtain ⟨t1, t2⟩ := ff_t hP hd h2 ht
  obtain ⟨bi', w', g1, g2, g3, g4, g5, g6, g7, g8, g9⟩ := add_all (o := o) (st := st) (l := l) (v := x) h p3 p4 hd h2 t1 hf h34 hp hl1 hl hc hx (by omega)
  generalize addA A d (fun i => C o (st + i)) l x = B1 at *
  have kx : nd B1 x 0 = nd A x 0 := g6 x 0 hx (by omega) (by omega)
  have S := SR_nam (v := nd A x 2 + 1) g1 hx (by rw [kx]; omega) (by omega)
  obtain ⟨y1, y2, y3, y4, y5⟩ := nn_fx (v := nd A x 2 + 1) hx (Or.inl rfl) g1.ok g4 g3 S.ti (fun q => by omega)
  refine ⟨bi', w', S, g2, ⟨S.ok, S.ti, y2, y3, ?_, ?_⟩, KR_t g5 y5, g6 x 2 hx (by omega) (by omega)⟩
  · have dx : ∀ m i, m < 64 → i < 85 → i ≠ 1 → ¬ (m = x ∧ i = 2) → nd (setN B1 x 2 (nd A x 2 + 1)) m i = nd A m i := fun m i hm hi q1 q2 => by
      rw [y1 m i (by omega), if_neg q2]
      exact g6 m i hm hi (fun z => q1 z.2)
    have := NF_link (N' := fun m => nd (setN B1 x 2 (nd A x 2 + 1)) m 2) (E' := ev (setN B1 x 2 (nd A x 2 + 1))) p5 hx hk hd h2 t2 g9 hN (fun m hm => by
      show nd (setN B1 x 2 (nd A x 2 + 1)) m 2 = if m = x then nd A x 2 + 1 else nd A m 2
      rw [y1 m 2 (by omega)]
      by_cases c : m = x
      · rw [if_pos ⟨c, rfl⟩, if_pos c]
      · rw [if_neg (fun q => c q.1), if_neg c]
        exact g6 m 2 hm (by omega) (by omega)) (fun a b => by rw [y4 a b, g8 a b])
    exact NFa_cg this (fun m hm => dx m 0 hm (by omega) (by omega) (by omega)) (fun m hm => dx m 3 hm (by omega) (by omega) (by omega)) (fun _ _ => rfl) (fun _ _ => rfl)
  · have e1 : ∀ a, nd (setN B1 x 2 (nd A x 2 + 1)) a 1 = nd B1 a 1 := fun a => by rw [y1 a 1 (by omega), if_neg (by omega)]
    refine SF_add (v := x) (k := ffA A d) (d := d) p6 hx hd h2 (fun m hm q => Or.inl ?_) (fun a ha q c => by rw [e1, g6 a 1 ha (by omega) (fun y => c y.1)]) (by rw [e1]; exact g7) (fun a b => by rw [y4 a b, g8 a b])
    rw [y1 m 0 (by omega), if_neg (by omega), g6 m 0 hm (by omega) (by omega)] at q
    exact q
/-- a name less -/
theorem PH_unl (h : SR bi w C A) (hP : PH t w A) (hd : d < 64) (h2 : nd A d 0 = 2) (hk : k < eAll A d) (hx : eN A d k = x) (hx64 : x ≠ 64) (hkx : nd A x 0 = 1 ∨ nd A x 0 = 3) :
    SR bi w ((fun Y => shC Y x (kiC Y x) (nd A x 2 - 1) (prC Y x) (szC Y x)) (rmEn C d k)) (setN (remA A d k) x 2 (nd A x 2 - 1)) ∧ PH t w (setN (remA A d k) x 2 (nd A x 2 - 1)) ∧ KR A (setN (remA A d k) x 2 (nd A x 2 - 1)) ∧ (nd (remA A d k) x 2 = nd A x 2 ∧ nd (remA A d k) x 0 = nd A x 0 ∧ 1 ≤ nd A x 2) ∧ SR bi w (rmEn C d k) (remA A d k) := by
  obtain ⟨p1, p2, p3, p4, p5, p6⟩ := id hP
  obtain ⟨g1, g3, g4, g5, g6, g7, g8⟩ := rem_all h p3 p4 hd h2 hk
  have xl : x < 64 := by
    have := eN_lt p1 d k
    omega
  have ex : ev A d k = x := by rw [ev_at hd h2 hk]; exact hx
  have N1 : 1 ≤ nd A x 2 ∧ nd A x 2 ≤ 200 := by
    obtain ⟨c1, c2⟩ := p5.2.2.1 x xl hkx
    have c1 : nd A x 2 = ecE (ev A) x := c1
    have b := p5.2.1 d k (by rw [ex]; exact hx64)
    have := ec_pos (E := ev A) b.1 b.2.1 ex
    exact ⟨by omega, c2⟩
  generalize remA A d k = B1 at *
  have kx : nd B1 x 0 = nd A x 0 := g6 x 0 xl (by omega) (by omega)
  have S := SR_nam (v := nd A x 2 - 1) g1 xl (by rw [kx]; omega) (by omega)
  obtain ⟨y1, y2, y3, y4, y5⟩ := nn_fx (v := nd A x 2 - 1) xl (Or.inl rfl) g1.ok g4 g3 S.ti (fun q => by omega)
  have dx : ∀ m i, m < 64 → i < 85 → i ≠ 1 → ¬ (m = x ∧ i = 2) → nd (setN B1 x 2 (nd A x 2 - 1)) m i = nd A m i := fun m i hm hi q1 q2 => by
    rw [y1 m i (by omega), if_neg q2]
    exact g6 m i hm hi (fun z => q1 z.2)
  have e1 : ∀ a, nd (setN B1 x 2 (nd A x 2 - 1)) a 1 = nd B1 a 1 := fun a => by rw [y1 a 1 (by omega), if_neg (by omega)]
  refine ⟨S, ⟨S.ok, S.ti, y2, y3, ?_, ?_⟩, KR_t g5 y5, ⟨g6 x 2 xl (by omega) (by omega), kx, N1.1⟩, g1⟩
  · have := NF_unl (N' := fun m => nd (setN B1 x 2 (nd A x 2 - 1)) m 2) (E' := ev (setN B1 x 2 (nd A x 2 - 1))) p5 ex hx64 hkx (fun m hm => by
      show nd (setN B1 x 2 (nd A x 2 - 1)) m 2 = if m = x then nd A x 2 - 1 else nd A m 2
      rw [y1 m 2 (by omega)]
      by_cases c : m = x
      · rw [if_pos ⟨c, rfl⟩, if_pos c]
      · rw [if_neg (fun q => c q.1), if_neg c]
        exact g6 m 2 hm (by omega) (by omega)) (fun a b => by rw [y4 a b, g8 a b])
    exact NFa_cg this (fun m hm => dx m 0 hm (by omega) (by omega) (by omega)) (fun m hm => dx m 3 hm (by omega) (by omega) (by omega)) (fun _ _ => rfl) (fun _ _ => rfl)
  · refine SF_rem (d := d) p6 hd (fun m hm q => ?_) (fun a ha c => by rw [e1, g6 a 1 ha (by omega) (fun y => c y.1)]) ⟨by rw [e1]; exact g7.1, fun q => ?_⟩ (fun a b c _ => by rw [y4 a b, g8 a b, if_neg (fun y => c y.1)])
    · rw [dx m 0 hm (by omega) (by omega) (by omega)] at q
      exact q
    · rw [e1] at q
      obtain ⟨b, b1, b2⟩ := g7.2 q
      refine ⟨b, ?_, by rw [y4 d b]; exact b2⟩
      unfold eAll at b1 ⊢
      rw [e1]
      exact b1
end PHM
