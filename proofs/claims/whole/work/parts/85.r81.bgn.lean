/-! ===== PURE: the class begins anew, all of it ===== -/
section BG4
variable {b0 fu : Nat} {σ τ ρ : tM} {C C1 C2 C' X E : tS} {D D' D0 D1 : tD} {mo z W : Nat → Nat} {l r m k c q n : Nat}
def C4f (C2 : tS) (l : Nat) : tS := tlC (jrC (suC C2 0 2 0) l)
theorem rsD_f (C : tS) (k n : Nat) : (∀ p, p ≠ 1 → p ≠ 2 → p ≠ 4 → p ≠ 5 → rsD C k n p = C p) ∧ (∀ p q, p = 2 ∨ p = 4 ∨ p = 5 → rsD C k n p q = if q < k then 0 else C p q) ∧ (rsD C k n 1 8 = n ∧ rsD C k n 1 9 = 0 ∧ rsD C k n 1 10 = 0 ∧ rsD C k n 1 11 = 0 ∧ rsD C k n 1 12 = 0 ∧ rsD C k n 1 13 = 0 ∧ rsD C k n 1 14 = 1) := by
  unfold rsD
  refine ⟨fun p h1 h2 h4 h5 => ?_, fun p q hp => ?_, ?_, ?_, ?_, ?_, ?_, ?_, ?_⟩
  · rw [up2_rown h1, up2_rown h1, up2_rown h1, up2_rown h1, up2_rown h1, up2_rown h1, up2_rown h1]
    funext q
    unfold zD
    rw [if_neg (by omega)]
  · have h1 : p ≠ 1 := by omega
    rw [up2_rown h1, up2_rown h1, up2_rown h1, up2_rown h1, up2_rown h1, up2_rown h1, up2_rown h1]
    unfold zD
    by_cases c : q < k
    · rw [if_pos ⟨hp, c⟩, if_pos c]
    · rw [if_neg (fun e => c e.2), if_neg c]
  · rw [up2_j (by decide), up2_j (by decide), up2_j (by decide), up2_j (by decide), up2_j (by decide), up2_j (by decide), up2_s]
  · rw [up2_j (by decide), up2_j (by decide), up2_j (by decide), up2_j (by decide), up2_j (by decide), up2_s]
  · rw [up2_j (by decide), up2_j (by decide), up2_j (by decide), up2_j (by decide), up2_s]
  · rw [up2_j (by decide), up2_j (by decide), up2_j (by decide), up2_s]
  · rw [up2_j (by decide), up2_j (by decide), up2_s]
  · rw [up2_j (by decide), up2_s]
  · rw [up2_s]
theorem S2_ci (l2 : l ≤ 4096) (r2 : r ≤ 2000) (h : S2p l r C C2) : ci C2 := by
  obtain ⟨-, ⟨a1, a2, a3, a4, a5, a6, a7, a8⟩, -, -, h15, -⟩ := h
  exact ci_zero ⟨by omega, by omega, by omega⟩ ⟨a6, a7, a8⟩ h15
/-- all that the relation asks for -/
theorem fm_of (l2 : l ≤ 4096) (r2 : r ≤ 2000) (hz : ∀ b, k ≤ b → b < 6130 → C 2 b = 0 ∧ C 4 b = 0 ∧ C 5 b = 0) (h0 : ∀ q, q < 32 → C 11 q = 0) (hE : ∀ j, C 27 j = E 70 j ∧ C 29 j = E 62 j ∧ C 31 j = E 63 j) (hS : S2p l r (rsD C k (34 + l + r)) C2) (hL : dL D = 0 ∧ dH D = 0) (hM : ∀ q, q < 1088 → mW D 0 q = if q = 64 then 2 else 0) (hW : ∀ q, q < 65088 → W q = mW D 0 q) : FMc l r E (upR (C4f C2 l) 100 W) D := by
  obtain ⟨d1, d2, d3⟩ := rsD_f C k (34 + l + r)
  have hS0 := hS
  obtain ⟨s1, ⟨a1, a2, a3, a4, a5, a6, a7, a8⟩, s11, s12, s15, s9⟩ := hS
  obtain ⟨u1, u2, u3⟩ := su_f (C := C2) (by omega) (s15 2).1
  obtain ⟨j1, j2, j3, j4, j5⟩ := jr_f (C := suC C2 0 2 0) (l := l)
  obtain ⟨t1, t2, t3⟩ := tl_f (C := jrC (suC C2 0 2 0) l)
  have e : ∀ p, p ≠ 100 → upR (C4f C2 l) 100 W p = C4f C2 l p := fun p hp => upR_nn hp
  have e4 : ∀ p, p ≠ 26 → p ≠ 28 → p ≠ 30 → p ≠ 32 → C4f C2 l p = jrC (suC C2 0 2 0) l p := t1
  have lo : ∀ p, p < 10 ∨ 21 ≤ p → p ≠ 26 → p ≠ 28 → p ≠ 30 → p ≠ 32 → p ≠ 100 → upR (C4f C2 l) 100 W p = rsD C k (34 + l + r) p := fun p hp h1 h2 h3 h4 h5 => by rw [e p h5, e4 p h1 h2 h3 h4, j1 p (by omega) (by omega) (by omega) (by omega) (by omega), u1 p (by omega) (by omega) (by omega) (by omega), s1 p (by omega)]
  have e10 : ∀ q, upR (C4f C2 l) 100 W 10 q = if q = 11 ∨ q = 12 then 0 else if q = 16 then 1 else C2 10 q := fun q => by
    rw [e 10 (by decide), e4 10 (by decide) (by decide) (by decide) (by decide), j4]
    by_cases c : q = 11 ∨ q = 12
    · rw [if_pos c, if_pos c]
    · rw [if_neg c, if_neg c, u3 q (by omega)]
  have n10 : ∀ q, q ≠ 11 → q ≠ 12 → q ≠ 16 → upR (C4f C2 l) 100 W 10 q = C2 10 q := fun q h1 h2 h3 => by rw [e10, if_neg (by omega), if_neg h3]
  have e12 : upR (C4f C2 l) 100 W 12 = C2 12 := by rw [e 12 (by decide), e4 12 (by decide) (by decide) (by decide) (by decide), j1 12 (by decide) (by decide) (by decide) (by decide) (by decide), u1 12 (by decide) (by decide) (by decide) (by decide)]
  have m15 : ∀ c, upR (C4f C2 l) 100 W 15 c = 0 ∧ upR (C4f C2 l) 100 W 16 c = 0 ∧ upR (C4f C2 l) 100 W 17 c = 0 := fun c => by
    rw [e 15 (by decide), e 16 (by decide), e 17 (by decide), e4 15 (by decide) (by decide) (by decide) (by decide), e4 16 (by decide) (by decide) (by decide) (by decide), e4 17 (by decide) (by decide) (by decide) (by decide), j1 17 (by decide) (by decide) (by decide) (by decide) (by decide), u1 17 (by decide) (by decide) (by decide) (by decide)]
    exact ⟨(j2 c).1, (j2 c).2, (s15 c).2.2⟩
  have e11 : ∀ q, q < 1088 → upR (C4f C2 l) 100 W 11 q = if q = 64 then 2 else 0 := fun q hq => by
    rw [e 11 (by decide), e4 11 (by decide) (by decide) (by decide) (by decide), j1 11 (by decide) (by decide) (by decide) (by decide) (by decide), u2]
    by_cases c : q = 64
    · rw [if_pos c, if_pos c]
    · rw [if_neg c, if_neg c, s11 q hq]
      by_cases c2 : q < 32
      · rw [if_pos c2, d1 11 (by decide) (by decide) (by decide) (by decide)]
        exact h0 q c2
      · rw [if_neg c2]
  have l1 : upR (C4f C2 l) 100 W 1 = rsD C k (34 + l + r) 1 := lo 1 (by omega) (by decide) (by decide) (by decide) (by decide) (by decide)
  have e20 : upR (C4f C2 l) 100 W 20 = jrC (suC C2 0 2 0) l 20 := by rw [e 20 (by decide), e4 20 (by decide) (by decide) (by decide) (by decide)]
  have q7 : upR (C4f C2 l) 100 W 10 7 = 34 + r := by rw [n10 7 (by decide) (by decide) (by decide)]; exact a1
  have q8 : upR (C4f C2 l) 100 W 10 8 = l := by rw [n10 8 (by decide) (by decide) (by decide)]; exact a2
  refine ⟨by rw [l1]; exact d3, fun b hb => ?_, by rw [e20]; exact j5, ⟨⟨?_, ?_, ?_⟩, q7, q8, by rw [n10 15 (by decide) (by decide) (by decide)]; exact a3, by rw [e10, if_neg (by decide), if_pos rfl]⟩, ⟨fun x hx => by rw [e12]; exact s12 _ (by omega) (by omega), m15, fun n hn => by rw [e 19 (by decide), e4 19 (by decide) (by decide) (by decide) (by decide)]; exact j3 n hn⟩, ⟨by rw [e11 64 (by omega), if_pos rfl], fun q hq h => by rw [e11 q hq, if_neg h]⟩, ⟨by rw [e 26 (by decide), e 28 (by decide), e 30 (by decide)]; exact t2, fun j => ?_⟩, fun h hh => by rw [e 32 (by decide)]; exact t3 h hh, hL, fun q hq => by rw [hM q hq, e11 q hq], fun q hq => by rw [upR_ss]; exact hW q hq⟩
  · rw [lo 2 (by omega) (by decide) (by decide) (by decide) (by decide) (by decide), lo 4 (by omega) (by decide) (by decide) (by decide) (by decide) (by decide), lo 5 (by omega) (by decide) (by decide) (by decide) (by decide) (by decide), d2 2 b (by omega), d2 4 b (by omega), d2 5 b (by omega)]
    by_cases c : b < k
    · rw [if_pos c, if_pos c, if_pos c]
      exact ⟨rfl, rfl, rfl⟩
    · rw [if_neg c, if_neg c, if_neg c]
      exact hz b (by omega) hb
  · exact ci_zero ⟨by omega, by omega, by omega⟩ ⟨by rw [e10, if_pos (Or.inl rfl)], by rw [e10, if_pos (Or.inr rfl)], by rw [n10 13 (by decide) (by decide) (by decide)]; exact a8⟩ m15
  · unfold sk
    rw [q7, e12, n10 9 (by decide) (by decide) (by decide), n10 10 (by decide) (by decide) (by decide), n10 14 (by decide) (by decide) (by decide), s9, a5, a4, show 34 + r - 34 = r by omega]
    refine ⟨rfl, ?_, ⟨by omega, by omega⟩, fun c h1 h2 => by omega⟩
    rw [cn_all0 r 34 (fun x h1 h2 => by rw [s12 x h1 (by omega)]; rfl)]
  · rw [e10, if_neg (by decide), if_pos rfl]
    exact ⟨Nat.le_refl _, by decide⟩
  · rw [lo 27 (by omega) (by decide) (by decide) (by decide) (by decide) (by decide), lo 29 (by omega) (by decide) (by decide) (by decide) (by decide) (by decide), lo 31 (by omega) (by decide) (by decide) (by decide) (by decide) (by decide), d1 27 (by decide) (by decide) (by decide) (by decide), d1 29 (by decide) (by decide) (by decide) (by decide), d1 31 (by decide) (by decide) (by decide) (by decide)]
    exact hE j
/-- a row for the root -/
theorem jr2_c (h : CM b0 σ C D) (hd : dL D = dH D) (e0 : dP D 21 2 = none) : wp (FC b0) σ (ckO b0 σ (b0 + 20) 1 (cll (m_X1_takeRow b0 fu (b0 + 20) σ) (fun v8 ρ9 => omt v8 (fun a11 => ckO b0 ρ9 (b0 + 20) 1 (osm (tA ρ9 (b0 + 20) 1) (fun a15 => ckO b0 ρ9 a15 5 (cll (m_X5_save b0 fu a15 2 (some a11) ρ9) (fun v19 ρ20 => ckO b0 ρ20 (b0 + 20) 1 (cll (m_X1_setBase b0 fu (b0 + 20) 2 (some a11) ρ20) (fun v24 ρ25 => some ((), ρ25)))))))) (ckO b0 ρ9 (b0 + 20) 1 (osm (tA ρ9 (b0 + 20) 1) (fun a29 => ckO b0 ρ9 a29 5 (cll (m_X5_save b0 fu a29 2 none ρ9) (fun v33 ρ34 => ckO b0 ρ34 (b0 + 20) 1 (cll (m_X1_setBase b0 fu (b0 + 20) 2 none ρ34) (fun v38 ρ39 => some ((), ρ39)))))))))))
    (fun _ τ => ∃ D' a, CM b0 τ C D' ∧ (∀ o j, ¬ (o = 21 ∧ j = 2) → dP D' o j = dP D o j) ∧ dP D' 21 2 = some a ∧ (∀ j, j < 32 → dW D' a j = C 11 (64 + j)) ∧ (dL D' = dL D ∧ dH D' = dH D) ∧ dE D' ≤ dE D + 34 ∧ dO D' ≤ dO D + 2) := by
  have L := h.lay
  have n6 : tA σ (b0 + 20) 6 = none := by
    obtain ⟨-, -, -, pl, -, -, ⟨-, -, -, g7⟩, -⟩ := h
    rw [g7, if_pos hd]
  rw [ckC_20 L]
  obtain ⟨v, ρ9, e1, ⟨f1, f6⟩, a, D1, ev, cg, tk1, -⟩ := takeRow_c (fu := fu) (CG_of (z := fun _ => 0) h)
  subst ev
  have L9 := cg.lay
  have o2 : (2 : Int32) = nI 2 := rfl
  have za : upz (fun _ => 0) 0 a 0 = a := if_pos rfl
  have ra : isRow b0 ρ9 a (dW D1 a) := by
    obtain ⟨-, -, -, pl, -, gz⟩ := cg
    have := (gz 0 (by omega)).1
    rwa [za] at this
  obtain ⟨ρ20, e2, cg2, f2, -, ta⟩ := save_c (fu := fu) (c := 2) cg ra (by omega)
  have d1 : dP D1 = dP D ∧ dL D1 = dL D ∧ dH D1 = dH D ∧ dE D1 ≤ dE D + 34 ∧ dO D1 ≤ dO D + 2 := by
    rcases tk1 with ⟨q, -⟩ | ⟨q, -⟩
    · rw [q]
      exact ⟨rfl, rfl, rfl, Nat.le_add_right _ _, Nat.le_add_right _ _⟩
    · rw [q]
      exact ⟨rfl, rfl, rfl, Nat.le_refl _, Nat.le_refl _⟩
  obtain ⟨p1, p2, p3, p4, p5⟩ := d1
  generalize hD2 : upW D1 a (fun j => if j < 32 then C 11 (2 * 32 + j) else dW D1 a j) = D2 at cg2
  have d2 : dP D2 = dP D1 ∧ dL D2 = dL D1 ∧ dH D2 = dH D1 ∧ dE D2 = dE D1 ∧ dO D2 = dO D1 ∧ dW D2 a = fun j => if j < 32 then C 11 (2 * 32 + j) else dW D1 a j := by
    rw [← hD2]
    refine ⟨rfl, rfl, rfl, rfl, rfl, ?_⟩
    show (if a = a then _ else _) = _
    rw [if_pos rfl]
  obtain ⟨w1, w2, w3, w4, w5, w6⟩ := d2
  have sb := setBaseS_n (fu := fu) (c := 2) cg2 (by omega) (by rw [w1, p1]; exact e0)
  rw [za] at sb
  obtain ⟨v3, τ, e3, ⟨f3, f36⟩, cg3⟩ := sb
  refine wp_from (FC_good b0) f1 ?_
  rw [e1, cll_some, omt_some, ckC_20 L9, osm_p (rfC_20_1 L9), ckC_10 L9, o2, e2, cll_some, ckC_20 cg2.lay, e3, cll_some]
  have hP : ∀ o j, dP (upP D2 21 2 (some a)) o j = if o = 21 ∧ j = 2 then some a else dP D2 o j := fun _ _ => rfl
  refine wp_ret (FC_2 f2 f3) ⟨upP D2 21 2 (some a), a, CG_to (z := upz (fun _ => 0) 0 a) cg3 (fun _ => ?_), fun o j hj => ?_, ?_, fun j hj => ?_, ⟨?_, ?_⟩, ?_, ?_⟩
  · rw [f36, (ta (b0 + 20)).1, f6]
    exact n6
  · rw [hP, if_neg hj, w1, p1]
  · rw [hP, if_pos ⟨rfl, rfl⟩]
  · show dW D2 a j = _
    rw [w6]
    show (if j < 32 then _ else _) = _
    rw [if_pos hj]
  · show dL D2 = _
    rw [w2, p2]
  · show dH D2 = _
    rw [w3, p3]
  · show dE D2 ≤ _
    rw [w4]
    exact p4
  · show dO D2 ≤ _
    rw [w5]
    exact p5
/-- words of the base, within their bound -/
theorem gh_W (h : CM b0 σ C D) : ∃ W : Nat → Nat, (∀ q, q < 65088 → W q = mW D 0 q) ∧ ∀ q, W q < 18446744073709551616 := by
  refine ⟨fun q => if q < 65088 then mW D 0 q else 0, fun q hq => if_pos hq, fun q => ?_⟩
  show (if q < 65088 then mW D 0 q else 0) < _
  by_cases c : q < 65088
  · rw [if_pos c, rwD_mW]
    unfold rwD
    cases ej : dP D 21 (q / 32) with
    | none => exact (show (0 : Nat) < 18446744073709551616 by decide)
    | some a => exact ((h.row (Or.inr (Or.inr ⟨rfl, by omega⟩)) ej).2.2.2.2.2 _).2
  · rw [if_neg c]
    decide
end BG4
