/-! ===== PURE: what stands between the calls of the law ===== -/
/-- nodes without a name -/
def nlc (s : Nat → Nat) : Nat := cn (fun n => decide (n < 64) && ((s (n * 95 + 0) == 1 || s (n * 95 + 0) == 3) && s (n * 95 + 2) == 0)) 0 64
def BV (t : Nat) (A : tS) (J : tJ) (N : Nat) : Prop :=
  (patOk A ∧ A 35 57 ≤ 4000 ∧ ∀ b, 6200 ≤ b → A 68 b = 0) ∧
  (dsk A (10000000 * (65 - t)) ∧ A 35 28 ≤ t ∧ A 35 34 ≤ 400 * t ∧ N ≤ 5000 + 600 * t ∧ tcA A ≤ 20 * t + 40 ∧ rcA A ≤ 200 * t + 700) ∧
  (J.2.2.1 ≤ 800 * t ∧ ∀ p s, J.2.2.2 p s → nlc s ≤ 16) ∧
  (A 35 18 = 1 → HI A ∧ CHG A ∧ gsA A ≤ A 35 6 ∧ J.2.2.1 + (tcA A + rcA A) ≤ 800 * t)
section BVS
variable {Φ : tPh} {b0 : Nat} {σ : tM} {bi sp : Nat → Nat} {w : Nat → Nat × Nat} {C : tS} {D : tD} {A B E : tS} {J J' : tJ} {K t un n N N' s : Nat}
theorem HI_nl (h : HI A) : nlc (A 36) ≤ 16 := by
  unfold nlc
  have := cn_list (p := fun n => decide (n < 64) && ((A 36 (n * 95 + 0) == 1 || A 36 (n * 95 + 0) == 3) && A 36 (n * 95 + 2) == 0)) ((List.range 16).map (fun h => A 71 h - 1)) (fun _ => false) 64 0 (fun b y => by
    refine Or.inr ?_
    have y : (decide (b < 64) && ((A 36 (b * 95 + 0) == 1 || A 36 (b * 95 + 0) == 3) && A 36 (b * 95 + 2) == 0)) = true := y
    rw [Bool.and_eq_true, Bool.and_eq_true, Bool.or_eq_true] at y
    obtain ⟨y1, y2, y3⟩ := y
    have k : nd A b 0 = 1 ∨ nd A b 0 = 3 := by
      rcases y2 with y2 | y2
      · exact Or.inl (beq_iff_eq.mp y2)
      · exact Or.inr (beq_iff_eq.mp y2)
    have z : nd A b 2 = 0 := beq_iff_eq.mp y3
    obtain ⟨g, g1, g2⟩ := op_iff.mp (h.2 b (of_decide_eq_true y1) k z)
    exact List.mem_map.mpr ⟨g, List.mem_range.mpr g1, by rw [g2, Nat.add_sub_cancel]⟩)
  have z : cn (fun _ : Nat => false) 0 64 = 0 := cn_all0 64 0 (fun _ _ _ => rfl)
  rw [z, List.length_map, List.length_range] at this
  omega
theorem ar_1 {x y l : Nat} (h : x ≤ y + 20) (g : y ≤ l / 2) (k : 40 ≤ l) : x ≤ l := by omega
theorem ar_2 {j j0 a b a' b' t : Nat} (h : j0 + (a + b) ≤ 800 * t) (g : j ≤ j0 + (a + b)) (k1 : a' ≤ 18) (k2 : b' ≤ 200) : j + (a' + b') ≤ 800 * (t + 1) := by omega
theorem ar_3 {j0 a b a' b' t : Nat} (h : j0 + (a + b) ≤ 800 * t) (k1 : a' ≤ a + 18) (k2 : b' ≤ b + 200) : j0 + (a' + b') ≤ 800 * (t + 1) := by omega
theorem ar_4 {j j0 x t : Nat} (h : j0 + x ≤ 800 * t) (g : j ≤ j0 + x) : j ≤ 800 * (t + 1) := by omega
theorem ar_5 {x y z : Nat} (h : x ≤ y + 600) (g : y ≤ 5000 + 600 * z) : x ≤ 5000 + 600 * (z + 1) := by
  rw [Nat.mul_add]
  exact Nat.le_trans h (by rw [Nat.mul_one, ← Nat.add_assoc]; exact Nat.add_le_add_right g 600)
theorem ar_6 {x y t : Nat} (h : x ≤ y + 18) (g : y ≤ 20 * t + 40) : x ≤ 20 * (t + 1) + 40 := by omega
theorem ar_7 {x y t : Nat} (h : x ≤ y + 200) (g : y ≤ 200 * t + 700) : x ≤ 200 * (t + 1) + 700 := by omega
theorem ar_8 {x t : Nat} (h : x ≤ 18) : x ≤ 20 * (t + 1) + 40 := by omega
theorem ar_9 {x t : Nat} (h : x ≤ 200) : x ≤ 200 * (t + 1) + 700 := by omega
theorem ar_x (t : Nat) : 20 * t + 40 ≤ 20 * (t + 1) + 40 := by omega
theorem ar_y (t : Nat) : 200 * t + 700 ≤ 200 * (t + 1) + 700 := by omega
theorem mk_z (h : ∀ b, b < 6200 → B 51 b = 0 ∧ B 52 b = 0) : tcA B = 0 ∧ rcA B = 0 := by
  refine ⟨cn_all0 6200 0 (fun b _ hb => ?_), cn_all0 6200 0 (fun b _ hb => ?_)⟩
  · have := (h b (by omega)).1
    simpa using this
  · have := (h b (by omega)).2
    simpa using this
theorem tQ_n (h : tQ B E) : tcA E ≤ tcA B + 18 ∧ rcA E ≤ rcA B + 200 := by
  obtain ⟨L, R, l, r, t⟩ := h
  obtain ⟨h1, h2⟩ := gs_list L R t.1 t.2
  exact ⟨Nat.le_trans h1 (Nat.add_le_add_left l _), Nat.le_trans h2 (Nat.add_le_add_left r _)⟩
theorem ua_OF {p : tP} (hΦ : goodT Φ) (hok : ∀ w A, Φ w A → okT A) (h : CM b0 σ C D) (hR : ST Φ bi sp w C D A J) (hd : dsk A (K + 2104102)) (hg : A 35 18 = 1 → gsA A ≤ A 35 6) (h34 : A 35 34 + 1 < 1000000) (h28 : A 35 28 + 1 < 1000) (hun : un < 1000000000) (e : uaX (up2 A 35 0 0) J un = .inr p) : p.1 35 18 = 0 := by
  have sc := sC_0 (A := A) (v := 0)
  have e18 : up2 A 35 0 0 35 18 = A 35 18 := up2_j (by decide)
  rcases hR with q | q
  · have on : A 35 18 = 1 := q.2.2.2.2.2.2.1
    have gs0 : gsA (up2 A 35 0 0) = gsA A := by
      unfold gsA tcA rcA
      rw [up2_rown (by decide), up2_rown (by decide)]
    have e6 : up2 A 35 0 0 35 6 = A 35 6 := up2_j (by decide)
    have pa := postAhead_on (fu := 10000) (K := K) (un := un) hΦ hok (by decide) h (RO_scr hΦ hok q sc) (dsk_scr hd sc) (Nat.le_of_eq (Nat.add_assoc K 4096 2100006)) (by rw [gs0, e6]; exact hg on) hun (by rw [up2_j (by decide)]; exact h34) (by rw [up2_j (by decide)]; exact h28)
    obtain ⟨v, τ, y1, y2, y3⟩ := pa
    rw [e] at y3
    obtain ⟨zv, sp', C', D', z1, z2, z3⟩ := y3
    exact z2.2.1
  · have ux : uaX (up2 A 35 0 0) J un = .inr (up2 A 35 0 0, J) := if_pos (by rw [e18]; exact q.2.1)
    rw [ux] at e
    have : (up2 A 35 0 0, J) = p := by injection e
    rw [← this]
    show up2 A 35 0 0 35 18 = 0
    rw [e18]
    exact q.2.1
theorem bv_tree {f : tS → Nat → Int × tS} (ht : t ≤ 63) (h : CM b0 σ C D) (hR : ST (PH t) bi sp w C D A J) (hB : BV t A J N) (hun : un ≤ N) (hN : N' ≤ N + 600)
    (hf : ∀ (p : tP) sp' C' D', AF A p.1 → HI p.1 → patOk p.1 → p.1 35 34 + 310 < 1000000 → RO (PH t) bi sp' w C' D' p.1 p.2 → MV p.1 (f p.1 s).2) : BV (t + 1) (pubX A J un s f).2.1 (pubX A J un s f).2.2 N' := by
  obtain ⟨⟨b1, b2, b3⟩, ⟨b4, b5, b6, b7, i5, i6⟩, ⟨b8, b9⟩, b10⟩ := hB
  have n' : N' ≤ 5000 + 600 * (t + 1) := ar_5 hN b7
  have hun9 : un < 1000000000 := by omega
  have hd1 : dsk A (10000000 * (65 - (t + 1)) + 2110000) := dsk_le b4 (by omega)
  have hd2 : dsk (up2 A 35 0 0) (10000000 * (65 - (t + 1)) + 138700) := dsk_scr (dsk_le b4 (by omega)) (sC_0 (A := A) (v := 0))
  obtain ⟨x1, x2⟩ := ua_x (K := 10000000 * (65 - (t + 1))) (un := un) (PH_good t) PH_ok h hR hd1 (by omega) (fun q => (b10 q).2.2.1)
  have xk := x1 _ hd2
  have u34 : up2 A 35 0 0 35 34 = A 35 34 := up2_j (by decide)
  have u28 : up2 A 35 0 0 35 28 = A 35 28 := up2_j (by decide)
  cases e : uaX (up2 A 35 0 0) J un with
  | inr p =>
    have px : pubX A J un s f = (0, (up2 p.1 35 0 1, p.2)) := by
      unfold pubX
      rw [e]
    rw [px]
    rw [e, oA_r] at xk x2
    obtain ⟨y1, y2, y3, y4, y5⟩ := xk
    rw [u34] at y4
    rw [u28] at y5
    have off := ua_OF (K := 0) (PH_good t) PH_ok h hR (dsk_le b4 (by omega)) (fun q => (b10 q).2.2.1) (by omega) (by omega) hun9 e
    have r : ∀ o, o ≠ 35 → ¬ (49 ≤ o ∧ o ≤ 52) → (o < 39 ∨ 46 < o) → up2 p.1 35 0 1 o = A o := fun o q1 q2 q3 => by rw [up2_rown q1, y2 o q1 (by omega) (fun k => q2 ⟨by omega, k.2.2⟩) q3, up2_rown q1]
    have fq : ∀ q, q ≠ 0 → up2 p.1 35 0 1 35 q = p.1 35 q := fun q hq => up2_j hq
    have onA : J.2.2.1 + (tcA A + rcA A) ≤ 800 * t ∨ p.2.2.2.1 ≤ J.2.2.1 := by
      rcases hR with q | q
      · exact Or.inl (b10 q.2.2.2.2.2.2.1).2.2.2
      · have ux : uaX (up2 A 35 0 0) J un = .inr (up2 A 35 0 0, J) := if_pos (by rw [up2_j (by decide)]; exact q.2.1)
        rw [ux] at e
        have : (up2 A 35 0 0, J) = p := by injection e
        rw [← this]
        exact Or.inr (Nat.le_refl _)
    have trA : ∀ q z, p.2.2.2.2 q z → nlc z ≤ 16 := fun q z y => by
      rcases x2.2 q z y with ⟨p', k⟩ | k
      · exact b9 p' z k
      · rcases hR with g | g
        · rw [k]
          exact HI_nl (b10 g.2.2.2.2.2.2.1).1
        · have ux : uaX (up2 A 35 0 0) J un = .inr (up2 A 35 0 0, J) := if_pos (by rw [up2_j (by decide)]; exact g.2.1)
          rw [ux] at e
          have : (up2 A 35 0 0, J) = p := by injection e
          rw [← this] at y
          exact b9 q z y
    obtain ⟨w1, w2⟩ := ua_xr (K := 10000000 * (65 - (t + 1))) (un := un) (PH_good t) PH_ok h hR hd1 (Nat.lt_of_le_of_lt b5 (Nat.lt_succ_of_le ht)) (fun q => (b10 q).2.2.1) e
    have tr1 : tcA (up2 p.1 35 0 1) ≤ 20 * (t + 1) + 40 := by
      have : tcA (up2 p.1 35 0 1) = tcA A := by
        unfold tcA
        rw [up2_rown (by decide), w1]
      rw [this]
      exact Nat.le_trans i5 (ar_x t)
    have tr2 : rcA (up2 p.1 35 0 1) ≤ 200 * (t + 1) + 700 := by
      have : rcA (up2 p.1 35 0 1) = rcA A := by
        unfold rcA
        rw [up2_rown (by decide), w2]
      rw [this]
      exact Nat.le_trans i6 (ar_y t)
    refine ⟨⟨?_, ?_, fun b hb => ?_⟩, ⟨?_, ?_, ?_, n', tr1, tr2⟩, ⟨?_, trA⟩, fun q => ?_⟩
    · show patOk (up2 p.1 35 0 1)
      unfold patOk at b1 ⊢
      intro v hv
      rw [r 64 (by decide) (by omega) (by omega), r (62 + v) (by omega) (by omega) (by omega)]
      exact b1 v hv
    · show up2 p.1 35 0 1 35 57 ≤ 4000
      rw [fq 57 (by decide), y3 57 (by omega), up2_j (by decide)]
      exact b2
    · show up2 p.1 35 0 1 68 b = 0
      rw [r 68 (by decide) (by omega) (by omega)]
      exact b3 b hb
    · exact dsk_scr y1 (sC_0 (v := 1))
    · show up2 p.1 35 0 1 35 28 ≤ t + 1
      rw [fq 28 (by decide)]
      omega
    · show up2 p.1 35 0 1 35 34 ≤ 400 * (t + 1)
      rw [fq 34 (by decide)]
      omega
    · rcases onA with q | q
      · exact ar_4 q x2.1
      · exact Nat.le_trans q (Nat.le_trans b8 (by omega))
    · have q : up2 p.1 35 0 1 35 18 = 1 := q
      rw [fq 18 (by decide), off] at q
      cases q
  | inl p =>
    have on : A 35 18 = 1 := by
      rcases hR with q | q
      · exact q.2.2.2.2.2.2.1
      · have ux : uaX (up2 A 35 0 0) J un = .inr (up2 A 35 0 0, J) := if_pos (by rw [up2_j (by decide)]; exact q.2.1)
        rw [ux] at e
        cases e
    obtain ⟨i1, i2, i3, i4⟩ := b10 on
    have q : RO (PH t) bi sp w C D A J := by
      rcases hR with q | q
      · exact q
      · rw [q.2.1] at on
        cases on
    have px : pubX A J un s f = ((f p.1 s).1, ((f p.1 s).2, p.2)) := by
      unfold pubX
      rw [e]
    rw [px]
    rw [e, oA_l] at xk x2
    obtain ⟨y1, y2, y3, y4, y5⟩ := xk
    rw [u34] at y4
    rw [u28] at y5
    obtain ⟨af, sp', C', D', ro, -⟩ := ua_RO (K := 0) (PH_good t) PH_ok h q (dsk_le b4 (by omega)) ⟨i3, by omega, by omega⟩ hun9 e
    have r : ∀ o, o ≠ 35 → ¬ (49 ≤ o ∧ o ≤ 52) → (o < 39 ∨ 46 < o) → p.1 o = A o := fun o q1 q2 q3 => by rw [y2 o q1 (by omega) (fun k => q2 ⟨by omega, k.2.2⟩) q3, up2_rown q1]
    have hi : HI p.1 := HI_kw i1 (KWn_e (r 36 (by decide) (by omega) (by omega)) (r 71 (by decide) (by omega) (by omega)))
    have pat : patOk p.1 := AF_pat af b1
    obtain ⟨m1, m2, m3, m4⟩ := hf p sp' C' D' af hi pat (by omega) ro
    have mk := ua_mk (K := 0) (PH_good t) PH_ok h q (dsk_le b4 (by omega)) e
    have cg := CHG_ua i2 e
    have l40 := (jo_6 q).1
    generalize hE : (f p.1 s).2 = E at *
    obtain ⟨k1, k2, k3, k4⟩ := m1
    have qn := tQ_n m2
    have qg := tQ_gs m2
    have tr : p.2.2.2.1 + (tcA E + rcA E) ≤ 800 * (t + 1) ∧ tcA E ≤ 20 * (t + 1) + 40 ∧ rcA E ≤ 200 * (t + 1) + 700 := by
      rcases mk with ⟨z1, z2, z3, z4⟩ | z
      · have t1 : tcA p.1 = tcA A := by
          unfold tcA
          rw [z2]
        have t2 : rcA p.1 = rcA A := by
          unfold rcA
          rw [z3]
        rw [t1, t2] at qn
        rw [z4]
        exact ⟨ar_3 i4 qn.1 qn.2, ar_6 qn.1 i5, ar_7 qn.2 i6⟩
      · obtain ⟨t1, t2⟩ := mk_z z
        rw [t1, t2, Nat.zero_add, Nat.zero_add] at qn
        exact ⟨ar_2 i4 x2.1 qn.1 qn.2, ar_8 qn.1, ar_9 qn.2⟩
    refine ⟨⟨?_, ?_, fun b hb => ?_⟩, ⟨?_, ?_, ?_, n', tr.2.1, tr.2.2⟩, ⟨?_, fun q z y => ?_⟩, fun _ => ⟨m4, CHG_k m3 cg, ?_, ?_⟩⟩
    · show patOk E
      unfold patOk at pat ⊢
      intro v hv
      rw [k1 64 (by decide) (by decide) (by decide) (by decide) (by omega), k1 (62 + v) (by omega) (by omega) (by omega) (by omega) (by omega)]
      exact pat v hv
    · show E 35 57 ≤ 4000
      rw [af.2.1.2.2.2] at k3
      omega
    · show E 68 b = 0
      rw [k1 68 (by decide) (by decide) (by decide) (by decide) (by omega), r 68 (by decide) (by omega) (by omega)]
      exact b3 b hb
    · exact dsk_cg y1 (fun q hq => k2 q (by omega) (by omega) (by omega) (by omega)) (k1 42 (by decide) (by decide) (by decide) (by decide) (by omega)) (k1 43 (by decide) (by decide) (by decide) (by decide) (by omega))
    · show E 35 28 ≤ t + 1
      rw [k2 28 (by decide) (by decide) (by decide) (by decide)]
      omega
    · show E 35 34 ≤ 400 * (t + 1)
      omega
    · exact ar_4 i4 x2.1
    · rcases x2.2 q z y with ⟨p', k⟩ | k
      · exact b9 p' z k
      · rw [k]
        exact HI_nl i1
    · have e6 : E 35 6 = A 35 6 := by rw [k2 6 (by decide) (by decide) (by decide) (by decide), af.2.1.2.1]
      show gsA E ≤ E 35 6
      rw [e6]
      exact ar_1 qg af.2.2.2 l40
    · exact tr.1
end BVS
