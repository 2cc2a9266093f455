/-! ===== PURE: a block taken from its place and freed, in both: SR stays ===== -/
section SRE
variable {bi : Nat → Nat} {w : Nat → Nat × Nat} {C A B : tS} {W V : Nat → Nat} {n s : Nat} {me : Bool}
theorem SR_de {r0 : Nat} (h : SR bi w C A) (hn : n < 64) (hv : vs s) (h0 : slo A n s = r0 + 1) (hz : ∀ k, k < 32 → pt A r0 k = 0) (he : ∀ k, k < 8 → eZ A r0 k 0 = 64) :
    SR bi w (deCt C A n s me) (deAt A n s me) ∧ (∀ n' s', n' < 64 → vs s' → slo (deAt A n s me) n' s' = if n' = n ∧ s' = s then 0 else slo A n' s') ∧
    (∀ n' i, n' < 64 → i < 85 → nd (deAt A n s me) n' i = nd A n' i) ∧ (∀ r k, k < 32 → pt (deAt A n s me) r k = if 6080 + r * 274 + (2 + k) = lcA A n s then 0 else pt A r k) ∧ (∀ r k i, k < 8 → i < 30 → eZ (deAt A n s me) r k i = eZ A r k i) := by
  have hZ := h.zm
  have hT := h.ti
  have hO := h.ok
  have hb := h.bj
  obtain ⟨⟨z1, z2, z3, z4, z5⟩, z6, z7, z8, z9, z10, z11, z12, z13, z14⟩ := hZ
  obtain ⟨hr2, hu, hw⟩ := hT.2.1 n s r0 hn hv h0
  have rlt := (hT.1 r0 hr2 hu).1
  have er : slo A n s - 1 = r0 := by omega
  have hp : rs s = false → slo A n (pa s) ≠ 0 := by
    intro c q
    have := (slo_n (A := A) (n := n) hv c).1
    rw [if_pos q] at this
    omega
  have tbu : rs s = false → ∃ y, slo A n (pa s) = y + 1 ∧ y < A 35 7 ∧ y < 2000 ∧ us A y ∧ y ≠ r0 := by
    intro c
    obtain ⟨f1, f2, f3, f4, f5⟩ := slo_n (A := A) (n := n) hv c
    have hp := hp c
    obtain ⟨y, hy⟩ : ∃ y, slo A n (pa s) = y + 1 := ⟨slo A n (pa s) - 1, by omega⟩
    have u := hT.2.1 n (pa s) y hn f2 hy
    refine ⟨y, hy, (hT.1 y u.1 u.2.1).1, u.1, u.2.1, fun e => ?_⟩
    have := u.2.2
    rw [e, hw] at this
    exact f5 (congrArg Prod.snd this).symm
  have tc : 1 ≤ tcC A n s ∧ tcC A n s < 34 + A 35 7 ∧ tcC A n s ≠ 34 + r0 := by
    unfold tcC
    cases c : rs s with
    | true => rw [if_pos rfl]; omega
    | false =>
      obtain ⟨y, q1, q2, -, -, q3⟩ := tbu c
      rw [if_neg (by decide), q1]
      omega
  -- the class, step by step
  generalize hX : touC (up2 C 11 (lcW A n s) 0) (tcC A n s) = X
  have Xo : ∀ p, p ≠ 10 → p ≠ 11 → p ≠ 15 → X p = C p := fun p p0 p1 p2 => by rw [← hX, tou_o p0 p2, up2_rown p1]
  have X10 : ∀ q, q ≠ 11 → X 10 q = C 10 q := fun q hq => by rw [← hX, tou_10 hq, up2_o (by decide)]
  have X15 : ∀ k, X 15 k = 0 ↔ k ≠ tcC A n s ∧ C 15 k = 0 := fun k => by
    rw [← hX, tou_15 (by omega) (by rw [up2_o (by decide), z1]; omega), up2_o (by decide)]
  have X11 : ∀ q, X 11 q = if q = lcW A n s then 0 else C 11 q := fun q => by
    rw [← hX, tou_o (by decide) (by decide)]
    by_cases d : q = lcW A n s
    · rw [d, up2_s, if_pos rfl]
    · rw [up2_j d, if_neg d]
  have s0 : C 12 (34 + r0) = 0 := by rw [z6 r0 rlt]; exact if_pos hu
  have eC : deCt C A n s me = relC X (34 + r0) me := by unfold deCt; rw [hX, er]
  obtain ⟨g11, g12, g15, g16, g17, gp⟩ := rl_rows (C := X) (me := me) (c := 34 + r0) ⟨by omega, by rw [X10 7 (by decide), z1]; omega⟩ (by rw [Xo 12 (by decide) (by decide) (by decide)]; exact s0)
  rw [← eC] at g11 g12 g15 g16 g17 gp
  -- the reference
  generalize hY : up2 (up2 A 36 (lcA A n s) 0) 51 (nbA A (tcC A n s)) 1 = Y
  have eA : deAt A n s me = freeA Y r0 me := by unfold deAt; rw [hY, er]
  have Yo : ∀ p, p ≠ 36 → p ≠ 51 → Y p = A p := fun p p0 p1 => by rw [← hY, up2_rown p1, up2_rown p0]
  have Y36 : ∀ j, Y 36 j = if j = lcA A n s then 0 else A 36 j := fun j => by
    rw [← hY, up2_o (by decide)]
    by_cases d : j = lcA A n s
    · rw [d, up2_s, if_pos rfl]
    · rw [up2_j d, if_neg d]
  have Y51 : ∀ b, Y 51 b = 0 ↔ b ≠ nbA A (tcC A n s) ∧ A 51 b = 0 := fun b => by
    rw [← hY]
    by_cases d : b = nbA A (tcC A n s)
    · rw [d, up2_s]
      exact ⟨fun q => by omega, fun q => absurd rfl q.1⟩
    · rw [up2_j d, up2_o (by decide)]
      exact ⟨fun q => ⟨d, q⟩, fun q => q.2⟩
  obtain ⟨f36, f48, f49, f51, f52, fp⟩ := fA_rows (A := Y) (me := me) (r := r0)
  rw [← eA] at f36 f48 f49 f51 f52 fp
  rw [Yo 35 (by decide) (by decide)] at f51 f52
  have hB : ptB A (deAt A n s me) n s 0 r0 0 (se A r0) := by
    intro j
    rw [f36, Y36]
    by_cases c : j = lcA A n s
    · rw [if_pos c, if_pos c]
      split <;> rfl
    · rw [if_neg c, if_neg c]
      by_cases d : j = 6080 + r0 * 274
      · rw [if_pos d, if_pos d]
      · rw [if_neg d, if_neg d]
        by_cases e : j = 6080 + r0 * 274 + 1
        · rw [if_pos e, e]
          rfl
        · rw [if_neg e]
  have B35 : deAt A n s me 35 = A 35 := by rw [fp 35 (by decide) (by decide) (by decide) (by decide) (by decide), Yo 35 (by decide) (by decide)]
  have hV : pW A (C 11) (deCt C A n s me 11) n s 0 r0 0 false := by
    intro q
    rw [g11, X11, show 34 + r0 - 34 = r0 by omega]
    have l64 : 64 ≤ lcW A n s := by
      cases c : rs s with
      | true => rw [lw_r c]; omega
      | false => rw [lw_n c]; omega
    by_cases c : q = lcW A n s
    · rw [if_pos c, if_pos c, if_neg (by omega)]
    · rw [if_neg c, if_neg c, if_neg (show ¬ (false = true ∧ _) from fun y => by cases y.1)]
  obtain ⟨T1, T2⟩ := TI_det hT hB (by rw [B35]) hn hv h0 hz he
  have U : ∀ r, us (deAt A n s me) r ↔ r ≠ r0 ∧ us A r := by
    intro r
    unfold us
    rw [pf_us hB hn hv]
    by_cases c : r = r0
    · rw [if_pos c]
      exact ⟨fun q => absurd rfl q, fun q => absurd c q.1⟩
    · rw [if_neg c]
      exact ⟨fun q => ⟨c, q⟩, fun q => q.2⟩
  have U0 : ∀ r, deAt A n s me 36 (6080 + r * 274) = if r = r0 then 0 else A 36 (6080 + r * 274) := fun r => pf_us hB hn hv
  have S : ∀ r, se (deAt A n s me) r = se A r := fun r => by
    rw [pf_se hB hn hv]
    by_cases c : r = r0
    · rw [if_pos c, c]
    · rw [if_neg c]
  have nbB : ∀ c, nbA (deAt A n s me) c = nbA A c := fun c => by unfold nbA; rw [B35]
  refine ⟨⟨?_, T1, MR_det h.mr hT hO hB hn hv h0 hV, FB_det h.fb hT hB hn hv h0 hV (by rw [fp 47 (by decide) (by decide) (by decide) (by decide) (by decide), Yo 47 (by decide) (by decide)]), ?_, ?_, ?_, ?_⟩, T2, fun n' i a b => pf_lo hB hn hv a b, fun r k hk => pf_pt hB hk, fun r k i h1 h2 => pf_eZ hB hn hv h1 h2⟩
  · rw [eC]
    refine rk_rel (rk_by ?_ ?_ ?_ h.rk)
    · rw [← hX]
      exact ci_tou (ci_11 h.rk.1)
    · rw [← hX]
      exact sk_tou (sk_11 h.rk.2.1)
    · exact X10 16 (by decide)
  · refine ⟨fun x => ?_, fun x hx => ?_, hb.2.2.1, fun r hr hur => ?_⟩
    · rw [eC, rel_10 (by decide) (by decide) (by decide) (by decide), X10 15 (by decide), B35]
      exact hb.1 x
    · rw [B35] at hx
      exact hb.2.1 x hx
    · rw [S]
      exact hb.2.2.2 r hr ((U r).mp hur).2
  · unfold ZM
    rw [B35, eC, rel_10 (by decide) (by decide) (by decide) (by decide), rel_10 (by decide) (by decide) (by decide) (by decide), rel_10 (by decide) (by decide) (by decide) (by decide), X10 7 (by decide), X10 8 (by decide), X10 16 (by decide), ← eC]
    refine ⟨⟨z1, z2, z3, z4, z5⟩, fun r hr => ?_, fun r hr hur => ?_, fun c k1 k2 => ?_, fun b hb => ?_, fun r hr => ?_, fun c hc => ?_, fun n' hn' => ?_, fun k hk => ?_, fun r hr q => ?_⟩
    · rw [g12, U0, f49, X10 16 (by decide), Xo 12 (by decide) (by decide) (by decide), Yo 49 (by decide) (by decide)]
      by_cases c : r = r0
      · rw [if_pos (by omega), if_pos c, if_neg (fun q => q rfl), if_pos c, if_neg (by decide), if_pos rfl, z3]
      · rw [if_neg (by omega), if_neg c, if_neg c]
        exact z6 r hr
    · obtain ⟨c, hua⟩ := (U r).mp hur
      rw [gp 13 (by decide) (by decide) (by decide) (by decide) (by decide) (by decide), gp 14 (by decide) (by decide) (by decide) (by decide) (by decide) (by decide), Xo 13 (by decide) (by decide) (by decide), Xo 14 (by decide) (by decide) (by decide), S, f49, if_neg c, Yo 49 (by decide) (by decide)]
      exact z7 r hr hua
    · obtain ⟨x1, x2⟩ := z8 c k1 k2
      have inj : ∀ c', 1 ≤ c' → (nbA A c = nbA A c' ↔ c = c') := fun c' hc' => by
        unfold nbA
        constructor
        · intro q
          split at q <;> split at q <;> omega
        · intro q
          rw [q]
      have n1 : nbA A c = 1 ↔ c = 1 := by
        have := inj 1 (by omega)
        rwa [show nbA A 1 = 1 from rfl] at this
      have nf : nbA A c = 34 + A 35 6 + r0 ↔ c = 34 + r0 := by
        have := inj (34 + r0) (by omega)
        rwa [show nbA A (34 + r0) = 34 + A 35 6 + r0 by unfold nbA; rw [if_neg (by omega)]; omega] at this
      have nt := inj (tcC A n s) tc.1
      rw [nbB, g15, f51, g16, f52, X15, Y51, Xo 16 (by decide) (by decide) (by decide), Yo 52 (by decide) (by decide), nf, ← x1, ← x2]
      have n1' : nbA A c ≠ 1 ↔ c ≠ 1 := not_congr n1
      have nt' : nbA A c ≠ nbA A (tcC A n s) ↔ c ≠ tcC A n s := not_congr nt
      rw [n1', nt']
      exact ⟨Iff.rfl, Iff.rfl⟩
    · obtain ⟨x1, x2⟩ := z9 b hb
      rw [f51, f52, Y51, Yo 52 (by decide) (by decide)]
      have nt : b ≠ nbA A (tcC A n s) := by
        unfold nbA
        split <;> omega
      exact ⟨Or.inr ⟨by omega, nt, x1⟩, fun q => by omega, x2⟩
    · rw [g17, f48, Xo 17 (by decide) (by decide) (by decide), Yo 48 (by decide) (by decide)]
      by_cases c : r = r0
      · rw [if_pos c]
        exact ⟨fun _ => rfl, fun _ => Or.inl (by omega)⟩
      · rw [if_neg c, ← z10 r hr]
        exact ⟨fun q => q.resolve_left (by omega), Or.inr⟩
    · rw [g17, Xo 17 (by decide) (by decide) (by decide)]
      exact Or.inr (z11 c hc)
    · rw [gp 19 (by decide) (by decide) (by decide) (by decide) (by decide) (by decide), Xo 19 (by decide) (by decide) (by decide), fp 50 (by decide) (by decide) (by decide) (by decide) (by decide), Yo 50 (by decide) (by decide)]
      exact z12 n' hn'
    · rw [gp 32 (by decide) (by decide) (by decide) (by decide) (by decide) (by decide), Xo 32 (by decide) (by decide) (by decide), fp 71 (by decide) (by decide) (by decide) (by decide) (by decide), Yo 71 (by decide) (by decide)]
      exact z13 k hk
    · rw [f48] at q
      by_cases c : r = r0
      · rw [if_pos c] at q
        exact absurd rfl q
      · rw [if_neg c, Yo 48 (by decide) (by decide)] at q
        exact (U r).mpr ⟨c, z14 r hr q⟩
  · intro j
    rw [f36, Y36]
    have b0 : 0 < bT j := by have := hO j; omega
    split
    · exact b0
    · split
      · exact b0
      · exact hO j
  · obtain ⟨q1, q2, q3, q4, q5⟩ := h.gh
    obtain ⟨y, y1, y2⟩ := lw_c (A := A) (n := n) hv
    have c100 : deCt C A n s me 100 = C 100 := by rw [gp 100 (by decide) (by decide) (by decide) (by decide) (by decide) (by decide), Xo 100 (by decide) (by decide) (by decide)]
    have ws2 : ∀ c j, c ≠ tcC A n s → c ≠ 1 → j < 32 → deCt C A n s me 11 (c * 32 + j) = C 11 (c * 32 + j) := fun c j k1 k2 hj => by
      rw [hV, if_neg (by rw [y2]; omega), if_neg (fun q => by cases q.1), if_neg (by omega)]
    refine ⟨fun c k1 k2 k3 j hj => ?_, fun r hr hur hm k3 j hj => ?_, fun r hr k => ?_, fun c hc => ?_, fun r hr k => ?_⟩
    · rcases (g15 c).mp k3 with x | ⟨x1, x2⟩
      · omega
      · obtain ⟨x3, x4⟩ := (X15 c).mp x2
        rw [c100, ws2 c j x3 x1 hj]
        exact q1 c k1 k2 x4 j hj
    · obtain ⟨e, hua⟩ := (U r).mp hur
      rcases (g15 (34 + r)).mp k3 with x | ⟨x1, x2⟩
      · omega
      · obtain ⟨x3, x4⟩ := (X15 _).mp x2
        rw [pf_lo hB hn hv (hT.1 r hr hua).2.1 (by omega)] at hm
        rw [c100, ws2 _ j x3 x1 hj]
        exact q2 r hr hua hm x4 j hj
    · rw [B35] at hr
      rw [f49]
      by_cases e : r = r0
      · rw [if_pos e]
      · rw [if_neg e, Yo 49 (by decide) (by decide)]
        refine q3 r hr (fun z => k ((g16 _).mpr ⟨fun y => e (by omega), ?_⟩))
        rw [Xo 16 (by decide) (by decide) (by decide)]
        exact z
    · rw [g16, Xo 16 (by decide) (by decide) (by decide)]
      exact ⟨fun y => by omega, q4 c hc⟩
    · rw [B35] at hr
      rw [f48] at k
      by_cases e : r = r0
      · rw [if_pos e] at k
        exact absurd rfl k
      · rw [if_neg e, Yo 48 (by decide) (by decide)] at k
        have hua := z14 r hr k
        rw [pf_lo hB hn hv (hT.1 r (by omega) hua).2.1 (by omega)]
        exact q5 r hr k
end SRE
