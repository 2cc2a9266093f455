/-! ===== PURE: an entry more, whole ===== -/
section ADG
variable {bi : Nat → Nat} {w w' : Nat → Nat × Nat} {C X A B : tS} {t n m k d r : Nat}
theorem adE1_o {o : Nat} (hp : rwO o) : adE1 C d o = C o := by
  unfold adE1
  split
  · rfl
  · unfold shC
    rw [sn_o hp.1 hp.2.1 hp.2.2.2.2.2.1, obT_o hp]
theorem add_all {o st l v : Nat} (h : SR bi w C A) (hF : TF A) (hD : DI w A) (hd : d < 64) (h2 : nd A d 0 = 2) (hi : ffA A d / 8 < 1063) (hf : ffA A d = eAll A d → obN C d (ffA A d / 8) ≤ fre A) (h34 : A 35 34 + 3 < 1000000) (hp : rwO o) (hl1 : 1 ≤ l) (hl : l ≤ 28) (hc : ∀ i, i < l → C o (st + i) < 128) (hv : v < 64) (hv0 : nd A v 0 ≠ 0) :
    ∃ bi' w', SR bi' w' (adEn C d o st l v) (addA A d (fun i => C o (st + i)) l v) ∧ (∀ x, bi x ≠ 0 → bi' x = bi x) ∧ TF (addA A d (fun i => C o (st + i)) l v) ∧ DI w' (addA A d (fun i => C o (st + i)) l v) ∧ KR A (addA A d (fun i => C o (st + i)) l v) ∧
      (∀ n' j, n' < 64 → j < 85 → ¬ (n' = d ∧ j = 1) → nd (addA A d (fun i => C o (st + i)) l v) n' j = nd A n' j) ∧ ((ffA A d < eAll A d ∧ nd (addA A d (fun i => C o (st + i)) l v) d 1 = nd A d 1) ∨ (ffA A d = eAll A d ∧ nd (addA A d (fun i => C o (st + i)) l v) d 1 = nd A d 1 + 256)) ∧
      (∀ a b, ev (addA A d (fun i => C o (st + i)) l v) a b = if a = d ∧ b = ffA A d then v else ev A a b) ∧ ev A d (ffA A d) = 64 := by
  obtain ⟨z1, z2, z3⟩ := hD.1 d hd h2
  obtain ⟨ea, ep⟩ := pf_eq (VW_of h hD) hd h2 (fun k a b => (hD.2.1 d k hd h2 a b).2)
  obtain ⟨bi', w', g1, g2, g3, g4, g5, g6, g7, g8, g9⟩ := add1_fx h hF hD hd h2 hi hf h34
  obtain ⟨q1, q2⟩ := add1_ev h.ti h.ok hD hd h2 hi g1.ti g4 g5 g6 g7 g9
  have so := adE1_o (C := C) (d := d) hp
  have en : adEn C d o st l v = seE (adE1 C d) d (ffA A d) o st l v := by
    unfold adEn
    rw [ep]
  have ff64 : ev A d (ffA A d) = 64 := by
    by_cases c : ffA A d < eAll A d
    · rw [ev_at hd h2 c, ff_free c]
    · unfold ev
      rw [if_neg (fun q => c q.2.2)]
  have ed : addA A d (fun i => C o (st + i)) l v = add2 (add1 A d) d (ffA A d) (fun i => C o (st + i)) l v := rfl
  rw [en, ed]
  generalize hA1 : add1 A d = A1 at *
  have k0 : ∀ m, m < 64 → nd A1 m 0 = nd A m 0 := fun m hm => g4.nd hm (by omega) (by omega)
  obtain ⟨r, hr⟩ : ∃ r, hasA A1 d (ffA A d / 8) = r + 1 := ⟨hasA A1 d (ffA A d / 8) - 1, by omega⟩
  have S := SR_set2 (k := ffA A d) (o := o) (st := st) (l := l) (v := v) g1 hd (by rw [k0 d hd]; exact h2) (by omega) hr hp.2.1 hl (by rw [so]; exact hc) hv
  rw [so] at S
  obtain ⟨y1, y2, y3, y4⟩ := add2_fx (v := v) (nm := fun i => C o (st + i)) g1.ti hd (by omega) hr hl
  have ffl : ffA A d < eAll A1 d := by
    have := ff_le (A := A) (d := d)
    unfold eAll at this g6 ⊢
    rcases g6 with ⟨a, b⟩ | ⟨a, b⟩
    · rw [b]
      exact a
    · rw [b]
      omega
  generalize hB : add2 A1 d (ffA A d) (fun i => C o (st + i)) l v = B at *
  have nde : ∀ n' j, n' < 64 → j < 85 → ¬ (n' = d ∧ j = 1) → nd B n' j = nd A n' j := fun n' j a b c => by
    rw [y1 n' j a (by omega)]
    by_cases e : j = 1
    · rw [e]
      exact g5 n' a (fun x => c ⟨x, e⟩)
    · exact g4.nd a b e
  have b1 : nd B d 1 = nd A1 d 1 := y1 d 1 hd (by omega)
  have K0 : ∀ m, m < 64 → nd B m 0 = nd A m 0 := fun m hm => nde m 0 hm (by omega) (by omega)
  have eA : ∀ a, a < 64 → eAll B a = eAll A1 a := fun a ha => by
    unfold eAll
    rw [y1 a 1 ha (by omega)]
  have eAm : ∀ a, a < 64 → eAll A a ≤ eAll A1 a := fun a ha => by
    by_cases c : a = d
    · subst c
      unfold eAll
      rcases g6 with ⟨-, e⟩ | ⟨-, e⟩ <;> rw [e] <;> omega
    · unfold eAll
      rw [g5 a ha c]
      exact Nat.le_refl _
  have hsB : ∀ a i, a < 64 → i < 1064 → hasA B a i = hasA A1 a i := fun a i ha hi' => by
    have := y2 a i ha (Or.inl hi')
    rwa [hs_slo hi', hs_slo hi'] at this
  have s1 := (nd_k g1.ok hd).2.1
  have ent : ∀ a b, a < 64 → nd A a 0 = 2 → b < eAll A1 a → eN B a b = (if a = d ∧ b = ffA A d then v else ev A a b) ∧ (ev A a b ≠ 64 ∨ (a = d ∧ b = ffA A d) → eL B a b = if a = d ∧ b = ffA A d then l else eL A a b) := fun a b ha h2a hb => by
    obtain ⟨l1, l2⟩ := eA_lt g1.ok ha hb
    obtain ⟨e1, e2⟩ := y4 a b ha l2 ((q2 a ha h2a).2 _ l1)
    obtain ⟨e3, e4⟩ := q1 a b ha h2a hb
    rw [e1, e2, e3]
    refine ⟨rfl, fun q => ?_⟩
    by_cases c : a = d ∧ b = ffA A d
    · rw [if_pos c, if_pos c]
    · rw [if_neg c, if_neg c]
      rcases q with q | q
      · exact e4 q
      · exact absurd q c
  have tfB : TF B := fun n' s' a b c e => by
    rw [y2 n' s' a b] at e
    obtain ⟨k, k1, k2⟩ := g3 n' s' a b c e
    exact ⟨k, k1, by rw [y2 n' _ a (chS_ok b c k1).1]; exact k2⟩
  refine ⟨bi', w', S, g2, tfB, ⟨fun a ha h2a => ?_, fun a b ha h2a hb hne => ?_, fun m hm h3 => ?_, fun m hm h12 i hi' hsz => ?_, di5 S.ti tfB⟩, KR_t g4.kr y3, nde, by rw [b1]; exact g6, fun a b => ?_, ff64⟩
  · rw [K0 a ha] at h2a
    obtain ⟨p1, p2⟩ := q2 a ha h2a
    have ba := (nd_k g1.ok ha).2.1
    have b3 := (nd_k h.ok ha).2.2.2.1
    rw [y1 a 1 ha (by omega), nde a 3 ha (by omega) (by omega), K0 _ b3]
    exact ⟨p1, (hD.1 a ha h2a).2.1, fun i hi' => by rw [hsB a i ha (by omega)]; exact p2 i hi'⟩
  · rw [K0 a ha] at h2a
    rw [eA a ha] at hb
    obtain ⟨e1, e2⟩ := ent a b ha h2a hb
    rw [e1] at hne ⊢
    by_cases c : a = d ∧ b = ffA A d
    · rw [if_pos c, K0 v hv]
      rw [e2 (Or.inr c), if_pos c]
      exact ⟨hv0, hl1⟩
    · rw [if_neg c] at hne ⊢
      rw [e2 (Or.inl hne), if_neg c]
      obtain ⟨x1, x2, x3, x4⟩ := ev_lt hne
      rw [x4] at hne ⊢
      have l := eN_lt h.ok a b
      rw [K0 _ (by omega)]
      exact hD.2.1 a b x1 x2 x3 hne
  · rw [K0 m hm] at h3
    have md : m ≠ d := fun e => by rw [e] at h3; omega
    rw [nde m 1 hm (by omega) (fun q => md q.1), nde m 4 hm (by omega) (by omega)]
    exact hD.2.2.1 m hm h3
  · rw [K0 m hm] at h12
    rw [hsB m i hm hi']
    have szm : nd A m 1 ≤ nd B m 1 := by
      by_cases c : m = d
      · rw [c, b1]
        rcases g6 with ⟨-, e⟩ | ⟨-, e⟩ <;> rw [e] <;> omega
      · rw [nde m 1 hm (by omega) (fun q => c q.1)]
        exact Nat.le_refl _
    have a0 := hD.2.2.2.1 m hm h12 i hi' (by omega)
    refine Classical.byContradiction (fun q => ?_)
    obtain ⟨x1, x2⟩ := g8 m i hm hi' a0 q
    rw [x1, b1, x2] at hsz
    rcases g6 with ⟨e1, e2⟩ | ⟨e1, e2⟩
    · rw [e2] at hsz
      unfold eAll at e1
      omega
    · rw [e2] at hsz
      unfold eAll at e1
      omega
  · by_cases ha : a < 64
    · by_cases h2a : nd A a 0 = 2
      · by_cases hb : b < eAll A1 a
        · have : ev B a b = eN B a b := ev_at ha (by rw [K0 a ha]; exact h2a) (by rw [eA a ha]; exact hb)
          rw [this, (ent a b ha h2a hb).1]
        · have : ev B a b = 64 := by
            unfold ev
            rw [eA a ha, if_neg (fun q => hb q.2.2)]
          rw [this, if_neg (fun q => hb (by rw [q.1, q.2]; exact ffl))]
          unfold ev
          rw [if_neg (fun q => hb (by have := eAm a ha; omega))]
      · have : ev B a b = 64 := by
          unfold ev
          rw [K0 a ha, if_neg (fun q => h2a q.2.1)]
        rw [this, if_neg (fun q => h2a (by rw [q.1]; exact h2))]
        unfold ev
        rw [if_neg (fun q => h2a q.2.1)]
    · rw [ev_64 ha, ev_64 ha, if_neg (fun q => ha (by rw [q.1]; exact hd))]
end ADG
