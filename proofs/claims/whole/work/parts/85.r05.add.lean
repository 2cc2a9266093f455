/-! ===== PURE: an entry more: what it does to the tree ===== -/
section ADF
variable {bi : Nat → Nat} {w w' : Nat → Nat × Nat} {C X A B : tS} {t n m k d r : Nat}
theorem off_m {r o : Nat} (ho : o < 274) : (6080 + r * 274 + o - 6080) % 274 = o := by
  rw [show 6080 + r * 274 + o - 6080 = o + 274 * r by omega, Nat.add_mul_mod_self_left]
  exact Nat.mod_eq_of_lt ho
theorem pa_2000 (s : Nat) : 2000 ≤ pa s := by
  unfold pa
  split
  · omega
  · split <;> omega
theorem ff_le : ffA A d ≤ eAll A d := by
  have := (sr_le (fun k => eN A d k == 64) (eAll A d) 0).2
  unfold ffA
  omega
theorem ff_free (h : ffA A d < eAll A d) : eN A d (ffA A d) = 64 := by
  have := sr_is (fun k => eN A d k == 64) (eAll A d) 0 (by unfold ffA at h; omega)
  have u : eN A d (sr (fun k => eN A d k == 64) 0 (eAll A d)) = 64 := by simpa using this
  exact u
/-- a block that is got anew is told apart -/
theorem slo_new (hT : TI w A) (hT' : TI w' B) (hk : ∀ n' s', n' < 64 → vs s' → slo A n' s' ≠ 0 → slo B n' s' = slo A n' s') {n s : Nat} (hn : n < 64) (hs : vs s) (h0 : slo A n s = 0) (hr : slo B n s = r + 1) : r < 2000 ∧ ¬ us A r := by
  obtain ⟨a1, a2, a3⟩ := hT'.2.1 n s r hn hs hr
  refine ⟨a1, fun q => ?_⟩
  obtain ⟨-, b1, -, b2, b3⟩ := hT.1 r a1 q
  have e := hk _ _ b1 b2 (by omega)
  rw [b3] at e
  have := (hT'.2.1 _ _ r b1 b2 e).2.2
  rw [a3] at this
  have e1 : n = (w r).1 := congrArg Prod.fst this
  have e2 : s = (w r).2 := congrArg Prod.snd this
  rw [← e1, ← e2] at b3
  omega
theorem add1_fx (h : SR bi w C A) (hF : TF A) (hD : DI w A) (hd : d < 64) (h2 : nd A d 0 = 2) (hi : ffA A d / 8 < 1063) (hf : ffA A d = eAll A d → obN C d (ffA A d / 8) ≤ fre A) (h34 : A 35 34 + 3 < 1000000) :
    ∃ bi' w', SR bi' w' (adE1 C d) (add1 A d) ∧ (∀ x, bi x ≠ 0 → bi' x = bi x) ∧ TF (add1 A d) ∧ KP A (add1 A d) ∧ (∀ n', n' < 64 → n' ≠ d → nd (add1 A d) n' 1 = nd A n' 1) ∧
      ((ffA A d < eAll A d ∧ nd (add1 A d) d 1 = nd A d 1) ∨ (ffA A d = eAll A d ∧ nd (add1 A d) d 1 = nd A d 1 + 256)) ∧
      (∀ n' s', n' < 64 → vs s' → slo A n' s' ≠ 0 → slo (add1 A d) n' s' = slo A n' s') ∧
      (∀ n' i', n' < 64 → i' < 1064 → hasA A n' i' = 0 → hasA (add1 A d) n' i' ≠ 0 → n' = d ∧ i' = ffA A d / 8) ∧ hasA (add1 A d) d (ffA A d / 8) ≠ 0 := by
  have hV := VW_of h hD
  obtain ⟨z1, z2, z3⟩ := hD.1 d hd h2
  obtain ⟨ea, ep⟩ := pf_eq hV hd h2 (fun k a b => (hD.2.1 d k hd h2 a b).2)
  have fle := ff_le (A := A) (d := d)
  unfold add1 adE1
  rw [ep, ea]
  by_cases c : ffA A d = eAll A d
  · rw [if_pos c, if_neg (by omega)]
    obtain ⟨bi', w', g1, g2, g3, g4, g5, g6⟩ := SR_ens (i := ffA A d / 8) h hd (Or.inr h2) (by omega) (fun _ => hf c) h34
    have kpE : KP A (ensA A d (ffA A d / 8)) := KP_ens hd (by omega)
    have tfE := TF_ens (i := ffA A d / 8) hF (by omega) g3 g4 g5
    generalize hE : ensA A d (ffA A d / 8) = E at *
    generalize hC1 : obT C d (ffA A d / 8) = C1 at *
    have k0 : nd E d 0 = 2 := by rw [g2.2.2 d 0 hd (by omega)]; exact h2
    have k1 : nd E d 1 = nd A d 1 := g2.2.2 d 1 hd (by omega)
    have sz : nd A d 1 = 256 * (ffA A d / 8) := by unfold eAll at c; omega
    obtain ⟨a0, a1⟩ := hd_c g1.ok g1.mr hd
    obtain ⟨a1, a2, a3⟩ := a1 (by omega)
    rw [if_neg (by omega)] at a3
    obtain ⟨r1, r2, r3, r4, r5⟩ := setN_r (A := E) (n := d) (v := 256 * (ffA A d / 8 + 1)) (x := 1) hd (by omega) (by omega)
    have H : SR bi' w' (shC C1 d (kiC C1 d) (naC C1 d) (prC C1 d) (szC C1 d + 256)) (setN E d 1 (256 * (ffA A d / 8 + 1))) := by
      refine SR_hdr g1 hd r1 r2 r3 (by omega) (okT_sz g1.ok hd (by omega)) ?_ ?_ ?_ ?_
      · rw [a0, r4 d 0 (by omega), if_neg (by omega)]
      · rw [a1, r4 d 2 (by omega), if_neg (by omega)]
      · rw [a2, r4 d 3 (by omega), if_neg (by omega)]
      · have x0 : nd (setN E d 1 (256 * (ffA A d / 8 + 1))) d 0 = 2 := by rw [r4 d 0 (by omega), if_neg (by omega)]; exact k0
        have x1 : nd (setN E d 1 (256 * (ffA A d / 8 + 1))) d 1 = 256 * (ffA A d / 8 + 1) := by rw [r4 d 1 (by omega), if_pos ⟨rfl, rfl⟩]
        rw [x0, x1, if_neg (by decide), a3, k1, sz]
        omega
    refine ⟨bi', w', H, g2.1, fun n' s' a b c' e => ?_, KP_t kpE (KP_N hd (Or.inl rfl)), fun n' a b => ?_, Or.inr ⟨c, ?_⟩, fun n' s' a b e => ?_, fun n' i' a b e q => ?_, ?_⟩
    · rw [r5 n' s' a b] at e
      obtain ⟨k, q1, q2⟩ := tfE n' s' a b c' e
      exact ⟨k, q1, by rw [r5 n' _ a (chS_ok b c' q1).1]; exact q2⟩
    · rw [r4 n' 1 (by omega), if_neg (fun q => b q.1), g2.2.2 n' 1 a (by omega)]
    · rw [r4 d 1 (by omega), if_pos ⟨rfl, rfl⟩]
      omega
    · rw [r5 n' s' a b]
      exact g4 n' s' a b e
    · rw [← hs_slo b, r5 n' i' a (Or.inl b)] at q
      obtain ⟨q1, q2⟩ := g5 n' i' a (Or.inl b) (by rw [hs_slo b]; exact e) q
      refine ⟨q1, ?_⟩
      rcases q2 with q2 | ⟨q2, q3⟩ | ⟨q2, q3, q4⟩
      · exact q2
      · have := pa_2000 (ffA A d / 8)
        omega
      · have := pa_2000 (pa (ffA A d / 8))
        omega
    · rw [← hs_slo (by omega), r5 d _ hd (Or.inl (by omega))]
      exact g3
  · rw [if_neg c, if_pos (by omega)]
    exact ⟨bi, w, h, fun _ _ => rfl, hF, KP_r, fun _ _ _ => rfl, Or.inl ⟨by omega, rfl⟩, fun _ _ _ _ _ => rfl, fun _ _ _ _ e q => absurd e q, z3 _ (by unfold eAll at fle c; omega)⟩
/-- the entries behind it -/
theorem add1_ev (hT : TI w A) (ho : okT A) (hD : DI w A) (hd : d < 64) (h2 : nd A d 0 = 2) (hi : ffA A d / 8 < 1063) (hT' : TI w' B) (hk : KP A B) (hz : ∀ n', n' < 64 → n' ≠ d → nd B n' 1 = nd A n' 1) (hz2 : (ffA A d < eAll A d ∧ nd B d 1 = nd A d 1) ∨ (ffA A d = eAll A d ∧ nd B d 1 = nd A d 1 + 256)) (hs : ∀ n' s', n' < 64 → vs s' → slo A n' s' ≠ 0 → slo B n' s' = slo A n' s') (hb : hasA B d (ffA A d / 8) ≠ 0) :
    (∀ a b, a < 64 → nd A a 0 = 2 → b < eAll B a → eN B a b = ev A a b ∧ (ev A a b ≠ 64 → eL B a b = eL A a b)) ∧ (∀ a, a < 64 → nd A a 0 = 2 → nd B a 1 % 256 = 0 ∧ ∀ i, i < nd B a 1 / 256 → hasA B a i ≠ 0) := by
  have hh : ∀ a i, a < 64 → i < 1064 → hasA A a i ≠ 0 → hasA B a i = hasA A a i := fun a i ha hi' q => by
    have := hs a i ha (Or.inl hi') (by rw [hs_slo hi']; exact q)
    rwa [hs_slo hi', hs_slo hi'] at this
  have old : ∀ a b, a < 64 → nd A a 0 = 2 → b < eAll A a → eN B a b = ev A a b ∧ (ev A a b ≠ 64 → eL B a b = eL A a b) := fun a b ha h2a hb' => by
    obtain ⟨l1, l2⟩ := eA_lt ho ha hb'
    have nz := (hD.1 a ha h2a).2.2 _ l1
    rw [ev_at ha h2a hb', eN_z, eN_z, eL_z, eL_z, hh a _ ha l2 nz, hk.ez _ (by omega) (by omega), hk.ez _ (by omega) (by omega)]
    exact ⟨rfl, fun _ => rfl⟩
  have bz := (nd_k ho hd).2.1
  refine ⟨fun a b ha h2a hb' => ?_, fun a ha h2a => ?_⟩
  · by_cases c : b < eAll A a
    · exact old a b ha h2a c
    · have ad : a = d := Classical.byContradiction (fun q => by
        unfold eAll at hb' c
        rw [hz a ha q] at hb'
        exact c hb')
      subst ad
      have e64 : ev A a b = 64 := by
        unfold ev
        rw [if_neg (fun q => c q.2.2)]
      refine ⟨?_, fun q => absurd e64 q⟩
      rw [e64]
      rcases hz2 with ⟨q1, q2⟩ | ⟨q1, q2⟩
      · unfold eAll at hb' c
        rw [q2] at hb'
        exact absurd hb' c
      · have b8 : b / 8 = ffA A a / 8 := by
          have := (hD.1 a ha h2a).1
          unfold eAll at hb' c q1
          rw [q2] at hb'
          omega
        have sz : nd A a 1 = 256 * (ffA A a / 8) := by
          have := (hD.1 a ha h2a).1
          unfold eAll at q1
          omega
        have h0 : hasA A a (ffA A a / 8) = 0 := hD.2.2.2.1 a ha (Or.inr h2a) _ (by omega) (by omega)
        obtain ⟨r, hr⟩ : ∃ r, hasA B a (ffA A a / 8) = r + 1 := ⟨hasA B a (ffA A a / 8) - 1, by omega⟩
        obtain ⟨n1, n2⟩ := slo_new (r := r) hT hT' hs ha (Or.inl (show ffA A a / 8 < 1064 by omega)) (by rw [hs_slo (by omega)]; exact h0) (by rw [hs_slo (by omega)]; exact hr)
        rw [eN_z, b8, hr, Nat.add_sub_cancel, hk.ez _ (by omega) (by omega)]
        exact hT.2.2.2.2 r n1 (fun q => absurd q n2) _ (by omega)
  · obtain ⟨z1, z2, z3⟩ := hD.1 a ha h2a
    have ba := (nd_k ho ha).2.1
    by_cases c : a = d
    · subst c
      rcases hz2 with ⟨q1, q2⟩ | ⟨q1, q2⟩
      · rw [q2]
        exact ⟨z1, fun i hi' => by rw [hh a i ha (by omega) (z3 i hi')]; exact z3 i hi'⟩
      · rw [q2]
        refine ⟨by omega, fun i hi' => ?_⟩
        by_cases e : i < nd A a 1 / 256
        · rw [hh a i ha (by omega) (z3 i e)]
          exact z3 i e
        · have : i = ffA A a / 8 := by
            unfold eAll at q1
            omega
          rw [this]
          exact hb
    · rw [hz a ha c]
      exact ⟨z1, fun i hi' => by rw [hh a i ha (by omega) (z3 i hi')]; exact z3 i hi'⟩
/-- an entry's words put -/
theorem add2_fx {v l : Nat} {nm : Nat → Nat} (hT : TI w A) (hd : d < 64) (hk : k / 8 < 1064) (hr : hasA A d (k / 8) = r + 1) (hl : l ≤ 28) :
    (∀ n' j, n' < 64 → j < 95 → nd (add2 A d k nm l v) n' j = nd A n' j) ∧ (∀ n' s', n' < 64 → vs s' → slo (add2 A d k nm l v) n' s' = slo A n' s') ∧ KR A (add2 A d k nm l v) ∧ (∀ a b, a < 64 → b / 8 < 1064 → hasA A a (b / 8) ≠ 0 → eN (add2 A d k nm l v) a b = (if a = d ∧ b = k then v else eN A a b) ∧ eL (add2 A d k nm l v) a b = if a = d ∧ b = k then l else eL A a b) := by
  obtain ⟨r2, ur, wr⟩ := hT.2.1 d (k / 8) r hd (Or.inl hk) (by rw [hs_slo hk]; exact hr)
  obtain ⟨e36, e51, eo⟩ := add2_r (A := A) (v := v) (nm := nm) hd hk r2 hr hl
  generalize add2 A d k nm l v = B at *
  have lo : ∀ j, (j < 6080 ∨ (j - 6080) % 274 < 34) → B 36 j = A 36 j := fun j q => by
    have no : ∀ o, 34 ≤ o → o < 274 → j ≠ 6080 + r * 274 + o := fun o o1 o2 e => by
      have := off_m (r := r) o2
      rw [← e] at this
      omega
    rw [e36, if_neg (no _ (by omega) (by omega)), if_neg (fun e => by
      obtain ⟨o, ho⟩ : ∃ o, j = 6080 + r * 274 + o := ⟨j - (6080 + r * 274), by omega⟩
      exact no o (by omega) (by omega) ho), if_neg (no _ (by omega) (by omega))]
  have nde : ∀ n' j, n' < 64 → j < 95 → nd B n' j = nd A n' j := fun n' j a b => lo _ (Or.inl (by omega))
  have pte : ∀ x y, y < 32 → pt B x y = pt A x y := fun x y q => lo _ (Or.inr (by omega))
  have hse : ∀ n' s', n' < 64 → vs s' → slo B n' s' = slo A n' s' := fun n' s' a b => by
    unfold slo hasA leafA
    unfold vs at b
    rw [nde n' 93 a (by omega), nde n' 94 a (by omega)]
    by_cases c1 : s' = 2000
    · rw [if_pos c1, if_pos c1]
    rw [if_neg c1, if_neg c1]
    by_cases c2 : s' = 2001
    · rw [if_pos c2, if_pos c2]
    rw [if_neg c2, if_neg c2]
    by_cases c3 : 2100 ≤ s'
    · rw [if_pos c3, if_pos c3, pte _ _ (by omega)]
    rw [if_neg c3, if_neg c3]
    by_cases c4 : s' < 8
    · rw [if_pos c4, if_pos c4, nde n' _ a (by omega)]
    rw [if_neg c4, if_neg c4]
    by_cases c5 : s' < 40
    · rw [if_pos c5, if_pos c5, pte _ _ (pl_lt (by omega))]
    · rw [if_neg c5, if_neg c5, pte _ _ (show (s' - 40) / 32 < 32 by omega), pte _ _ (pl_lt (by omega))]
  refine ⟨nde, hse, ⟨fun o a b c => eo o b (by omega), fun q _ => by rw [eo 35 (by decide) (by decide)], by rw [eo 35 (by decide) (by decide)]; exact Nat.le_refl _⟩, fun a b ha hb hn => ?_⟩
  have hB : hasA B a (b / 8) = hasA A a (b / 8) := by
    have := hse a (b / 8) ha (Or.inl hb)
    rwa [hs_slo hb, hs_slo hb] at this
  obtain ⟨x, hx⟩ : ∃ x, hasA A a (b / 8) = x + 1 := ⟨hasA A a (b / 8) - 1, by omega⟩
  obtain ⟨x2, ux, wx⟩ := hT.2.1 a (b / 8) x ha (Or.inl hb) (by rw [hs_slo hb]; exact hx)
  have ap : x = r → b % 8 = k % 8 → a = d ∧ b = k := fun e1 e2 => by
    rw [e1, wr] at wx
    have q1 : d = a := congrArg Prod.fst wx
    have q2 : k / 8 = b / 8 := congrArg Prod.snd wx
    exact ⟨q1.symm, by omega⟩
  unfold eN eL ex
  rw [hB, hx, Nat.add_sub_cancel, e36, e36]
  by_cases c : a = d ∧ b = k
  · have xr : x = r := by
      rw [c.1, c.2, hr] at hx
      omega
    rw [if_pos c, if_pos c, xr, c.2]
    refine ⟨by rw [if_pos (by omega)], ?_⟩
    rw [if_neg (by omega), if_neg (by omega), if_pos (by omega)]
  · have ne : ¬ (x = r ∧ b % 8 = k % 8) := fun q => c (ap q.1 q.2)
    rw [if_neg c, if_neg c]
    have n1 : ∀ y z, y < 30 → z < 30 → 6080 + x * 274 + (34 + b % 8 * 30 + y) ≠ 6080 + r * 274 + (34 + k % 8 * 30 + z) := fun y z hy hz q => by
      have a1 := off_m (r := x) (o := 34 + b % 8 * 30 + y) (by omega)
      have a2 := off_m (r := r) (o := 34 + k % 8 * 30 + z) (by omega)
      rw [q, a2] at a1
      exact ne ⟨by omega, by omega⟩
    refine ⟨?_, ?_⟩
    · rw [if_neg (fun q => n1 0 0 (by omega) (by omega) (by omega)), if_neg (fun q => n1 0 (6080 + x * 274 + (34 + b % 8 * 30 + 0) - (6080 + r * 274 + (34 + k % 8 * 30))) (by omega) (by omega) (by omega)), if_neg (fun q => n1 0 1 (by omega) (by omega) (by omega))]
    · rw [if_neg (fun q => n1 1 0 (by omega) (by omega) (by omega)), if_neg (fun q => n1 1 (6080 + x * 274 + (34 + b % 8 * 30 + 1) - (6080 + r * 274 + (34 + k % 8 * 30))) (by omega) (by omega) (by omega)), if_neg (fun q => n1 1 1 (by omega) (by omega) (by omega))]
end ADF
