/-! ===== PURE: what a recovery leaves: nameless nodes go ===== -/
def nlq (s : Nat → Nat) (n : Nat) : Bool := decide (n < 64) && ((s (n * 95 + 0) == 1 || s (n * 95 + 0) == 3) && s (n * 95 + 2) == 0)
section RCV
variable {bi : Nat → Nat} {w : Nat → Nat × Nat} {C A B E : tS} {J : tJ} {t n m k K b fr to : Nat}
theorem nlc_q (s : Nat → Nat) : nlc s = cn (nlq s) 0 64 := rfl
theorem nlq_iff : nlq (A 36) n = true ↔ n < 64 ∧ (nd A n 0 = 1 ∨ nd A n 0 = 3) ∧ nd A n 2 = 0 := by
  unfold nlq nd
  rw [Bool.and_eq_true, Bool.and_eq_true, Bool.or_eq_true, decide_eq_true_eq, beq_iff_eq, beq_iff_eq, beq_iff_eq]
/-- a nameless node goes: what is touched -/
theorem tB_fr (S : SR bi w C A) (P : PH t w A) (hn : n < 64) (hk : nd A n 0 = 1 ∨ nd A n 0 = 3) (h0 : nd A n 2 = 0) (h71 : ∀ x, x < 16 → A 71 x = 0) : tB [2 + n / 2, 1, 34 + A 35 6] (bks A n tbl) A (mfA A n) := by
  have e : mfA A n = setN (if nd A n 0 = 1 then szA A n 0 else A) n 0 0 := by
    unfold mfA
    rw [if_neg (fun q => by
      rcases q with q | q
      · omega
      · rw [op_no h71] at q
        cases q)]
  rw [e]
  by_cases c : nd A n 0 = 1
  · rw [if_pos c]
    obtain ⟨g1, g2, g3, g4, g5, g6, g7, g8⟩ := SR_sz (sz := 0) S hn c (by omega) (P.file hn c)
    obtain ⟨p1, p2⟩ := PH_sz (sz := 0) S P hn c (by omega)
    have z := ptr0 p2.tf hn (fun i hi => g3 i hi (by omega))
    have e6 : szA A n 0 35 6 = A 35 6 := (KP_sz (sz := 0) hn (by have := (nd_k S.ok hn).2.1; omega)).kr.2.1 6 (by decide)
    have eb : bks (szA A n 0) n [2001, pa ((0 + 255) / 256)] = [34 + A 35 6, 34 + A 35 6] := by
      have s1 : slo (szA A n 0) n 2001 = 0 := z 9 (by omega)
      have s2 : slo (szA A n 0) n (pa ((0 + 255) / 256)) = 0 := z 8 (by omega)
      unfold bks
      rw [List.map_cons, List.map_cons, List.map_nil, s1, s2, e6]
      rfl
    have t := tB_t (tB_sz (sz := 0) S P hn c (by omega)) (tB_N (A := szA A n 0) (n := n) (x := 0) (v := 0))
    rw [eb] at t
    refine tB_w t (fun b hb => ?_) (fun b hb => by rw [List.append_nil] at hb; exact hb)
    simp only [List.mem_append, List.mem_cons, List.not_mem_nil, or_false] at hb ⊢
    omega
  · rw [if_neg c]
    exact tB_w tB_N (fun b hb => by rw [List.mem_singleton.mp hb]; exact List.mem_cons_self) (fun b hb => by cases hb)
theorem mf_nd (S : SR bi w C A) (hn : n < 64) (h0 : nd A n 2 = 0) (h71 : ∀ x, x < 16 → A 71 x = 0) : nd (mfA A n) n 0 = 0 ∧ ∀ m, m < 64 → m ≠ n → nd (mfA A n) m 0 = nd A m 0 ∧ nd (mfA A n) m 2 = nd A m 2 := by
  have e : mfA A n = setN (if nd A n 0 = 1 then szA A n 0 else A) n 0 0 := by
    unfold mfA
    rw [if_neg (fun q => by
      rcases q with q | q
      · omega
      · rw [op_no h71] at q
        cases q)]
  rw [e]
  have kp : KP A (if nd A n 0 = 1 then szA A n 0 else A) := by
    split
    · exact KP_sz hn (by have := (nd_k S.ok hn).2.1; omega)
    · exact KP_r
  generalize (if nd A n 0 = 1 then szA A n 0 else A) = V at kp
  have kv := KWn_p kp
  refine ⟨?_, fun m hm c => ?_⟩
  · unfold nd
    rw [sN_36, if_pos rfl]
  · rw [← (kv.1 m hm).1, ← (kv.1 m hm).2]
    unfold nd
    rw [sN_36, sN_36, if_neg (by omega), if_neg (by omega)]
    exact ⟨rfl, rfl⟩
theorem cn_1x {p : Nat → Bool} {n m : Nat} : cn p n (m + 1) = (if p n = true then 1 else 0) + cn p (n + 1) m := rfl
theorem mfL_all : ∀ m n (C A : tS), SR bi w C A → PH t w A → n + m ≤ 64 → (∀ x, x < 16 → A 71 x = 0) →
    (∃ L R, L.length ≤ cn (nlq (A 36)) n m ∧ R.length ≤ 34 * cn (nlq (A 36)) n m ∧ tB (1 :: (34 + A 35 6) :: L) R A (mfL n m A)) ∧ KG A (mfL n m A) ∧ ∀ k, nlq (mfL n m A 36) k = true → nlq (A 36) k = true ∧ (k < n ∨ n + m ≤ k)
  | 0, n, C, A, _, _, _, _ => ⟨⟨[], [], Nat.zero_le _, Nat.zero_le _, tB_w tB_nil (fun b hb => by cases hb) (fun b hb => by cases hb)⟩, KG_r, fun k q => ⟨q, by omega⟩⟩
  | m + 1, n, C, A, S, P, hn, h71 => by
    obtain ⟨g1, g2, g3⟩ := dn_step (n := n) S P (by omega) h71
    have i := mfL_all m (n + 1) _ _ g1 g2 (by omega) (fun x hx => by rw [g3.1 71 (by decide) (by decide) (by omega)]; exact h71 x hx)
    have e6 := g3.2.1 6 (by decide)
    have em : mfL n (m + 1) A = mfL (n + 1) m (if nd A n 0 = 1 ∨ nd A n 0 = 3 then mfA A n else A) := rfl
    rw [em]
    by_cases c : nlq (A 36) n = true
    · obtain ⟨-, k1, k2⟩ := nlq_iff.mp c
      rw [if_pos k1] at i e6 ⊢
      obtain ⟨z1, z2⟩ := mf_nd S (n := n) (by omega) k2 h71
      have tf := tB_fr S P (n := n) (by omega) k1 k2 h71
      have kg := KG_mf (A := A) (n := n) (by omega)
      have oth : ∀ x, n + 1 ≤ x → nlq (mfA A n 36) x = nlq (A 36) x := fun x hx => by
        by_cases x64 : x < 64
        · obtain ⟨y1, y2⟩ := z2 x x64 (by omega)
          unfold nd at y1 y2
          unfold nlq
          rw [y1, y2]
        · unfold nlq
          rw [decide_eq_false x64, Bool.false_and, Bool.false_and]
      generalize mfA A n = B at *
      obtain ⟨⟨L, R, l1, l2, l3⟩, j1, j2⟩ := i
      rw [cn_congr m (n + 1) (fun x hx _ => oth x hx)] at l1 l2
      rw [e6] at l3
      rw [cn_1x, if_pos c]
      refine ⟨⟨(2 + n / 2) :: L, bks A n tbl ++ R, by rw [List.length_cons]; omega, ?_, ?_⟩, KG_t kg j1, fun k q => ?_⟩
      · rw [List.length_append]
        have : (bks A n tbl).length = 34 := by
          unfold bks tbl
          rw [List.length_map, List.length_cons, List.length_cons, List.length_map, List.length_range]
        omega
      · refine tB_w (tB_t tf l3) (fun b hb => ?_) (fun b hb => hb)
        simp only [List.mem_append, List.mem_cons, List.not_mem_nil, or_false] at hb ⊢
        rcases hb with (hb | hb | hb) | hb | hb | hb
        · exact Or.inr (Or.inr (Or.inl hb))
        · exact Or.inl hb
        · exact Or.inr (Or.inl hb)
        · exact Or.inl hb
        · exact Or.inr (Or.inl hb)
        · exact Or.inr (Or.inr (Or.inr hb))
      · obtain ⟨y1, y2⟩ := j2 k q
        by_cases ck : k = n
        · subst ck
          obtain ⟨-, u, -⟩ := nlq_iff.mp y1
          omega
        · by_cases cl : k < n
          · obtain ⟨v1, v2, v3⟩ := nlq_iff.mp y1
            obtain ⟨u1, u2⟩ := z2 k v1 ck
            exact ⟨nlq_iff.mpr ⟨v1, by rw [← u1]; exact v2, by rw [← u2]; exact v3⟩, Or.inl cl⟩
          · rw [oth k (by omega)] at y1
            exact ⟨y1, by omega⟩
    · have eB : (if nd A n 0 = 1 ∨ nd A n 0 = 3 then mfA A n else A) = A := by
        split
        · rename_i k1
          have : 0 < nd A n 2 := by
            rcases Nat.eq_zero_or_pos (nd A n 2) with z | z
            · exact absurd (nlq_iff.mpr ⟨by omega, k1, z⟩) c
            · exact z
          unfold mfA
          rw [if_pos (Or.inl this)]
        · rfl
      rw [eB] at i ⊢
      obtain ⟨⟨L, R, l1, l2, l3⟩, j1, j2⟩ := i
      rw [cn_1x, if_neg c, Nat.zero_add]
      refine ⟨⟨L, R, l1, l2, l3⟩, j1, fun k q => ?_⟩
      obtain ⟨y1, y2⟩ := j2 k q
      refine ⟨y1, ?_⟩
      by_cases ck : k = n
      · subst ck
        exact absurd y1 c
      · omega
theorem mfL_34 : ∀ m n (C A : tS), SR bi w C A → PH t w A → n + m ≤ 64 → (∀ x, x < 16 → A 71 x = 0) → mfL n m A 35 34 = A 35 34
  | 0, _, _, _, _, _, _, _ => rfl
  | m + 1, n, C, A, h, hP, hn, h71 => by
    obtain ⟨g1, g2, g3⟩ := dn_step (n := n) h hP (by omega) h71
    have e34 : (if nd A n 0 = 1 ∨ nd A n 0 = 3 then mfA A n else A) 35 34 = A 35 34 := by
      split
      · unfold mfA
        split
        · rfl
        · have s34 : ∀ (Z : tS), setN Z n 0 0 35 34 = Z 35 34 := fun Z => by
            unfold setN
            rw [up2_o (by decide), up2_o (by decide)]
          rw [s34]
          split
          · rename_i c
            exact (SR_sz (sz := 0) h (by omega) c (by omega) (hP.file (by omega) c)).2.2.2.2.2.1 34
          · rfl
      · rfl
    have em : mfL n (m + 1) A = mfL (n + 1) m (if nd A n 0 = 1 ∨ nd A n 0 = 3 then mfA A n else A) := rfl
    rw [em, mfL_34 m (n + 1) _ _ g1 g2 (by omega) (fun x hx => by rw [g3.1 71 (by decide) (by decide) (by omega)]; exact h71 x hx), e34]
/-- the counts behind it -/
theorem mfL_cnt (S : SR bi w C A) (P : PH t w A) (h71 : ∀ x, x < 16 → A 71 x = 0) (h51 : ∀ b, b < 6200 → A 51 b = 0 ∧ A 52 b = 0) (h50 : ∀ n, n < 64 → A 50 n = 0) (h16 : nlc (A 36) ≤ 16) : (tcA (mfL 0 64 A) ≤ 18 ∧ rcA (mfL 0 64 A) ≤ 544) ∧ HI (mfL 0 64 A) ∧ CHG (mfL 0 64 A) := by
  obtain ⟨⟨L, R, l1, l2, l3⟩, j1, j2⟩ := mfL_all 64 0 C A S P (by omega) h71
  obtain ⟨g1, g2, g3⟩ := dn_all 64 0 C A S P (by omega) h71
  rw [← nlc_q] at l1 l2
  obtain ⟨t1, t2⟩ := gs_list _ _ l3.1 l3.2
  obtain ⟨z1, z2⟩ := mk_z h51
  rw [z1] at t1
  rw [z2] at t2
  rw [List.length_cons, List.length_cons] at t1
  have r71 : mfL 0 64 A 71 = A 71 := g3.1 71 (by decide) (by decide) (by omega)
  generalize nlc (A 36) = x at *
  generalize L.length = ll at *
  generalize R.length = rl at *
  generalize tcA (mfL 0 64 A) = tc at *
  generalize rcA (mfL 0 64 A) = rc at *
  refine ⟨⟨by omega, by omega⟩, ⟨fun h hh q => ?_, fun n hn q z => ?_⟩, CHG_k j1 (fun n hn y => absurd (h50 n hn) y)⟩
  · rw [r71] at q
    exact absurd (h71 h hh) q
  · have := (j2 n (nlq_iff.mpr ⟨hn, q, z⟩)).2
    omega
/-- what the reference's recovery leaves of the rest, whether power fails or not -/
theorem XR_bX {x : tS ⊕ tS} {f : tS → tS ⊕ tS} {m m' : Nat} (h : XR false 0 0 m A (oX x)) (g : ∀ B, x = .inl B → XR false 0 0 m' B (oX (f B))) : XR false 0 0 (m + m') A (oX (bX x f)) := by
  cases x with
  | inr B => exact XR_le h (Nat.le_refl _) (Nat.le_refl _) (Nat.le_add_right _ _)
  | inl B => exact XR_t h (g B rfl)
theorem XR_byX : ∀ m b (A : tS), b + m ≤ 34 + A 35 6 + A 35 7 → XR false 0 0 m A (oX (byX b m A))
  | 0, _, _, _ => XR_r
  | m + 1, b, A, h => by
    have lx : byX b (m + 1) A = if A 69 b = 0 then byX (b + 1) m A else bX (verX A b 0 0) (byX (b + 1) m) := rfl
    rw [lx]
    split
    · exact XR_le (XR_byX m (b + 1) A (by omega)) (Nat.le_refl _) (Nat.le_refl _) (Nat.le_succ _)
    · have f := XR_ver (A := A) (b := b) (wh := 0) (id := 0) (fun _ => by omega) (fun q => by omega)
      cases e : verX A b 0 0 with
      | inr B =>
        rw [e] at f
        exact XR_le f (Nat.le_refl _) (Nat.le_refl _) (by omega)
      | inl B =>
        rw [e, oX_l] at f
        show XR false 0 0 (m + 1) A (oX (byX (b + 1) m B))
        intro K d
        have fK := f (K + m) (by rw [show K + m + 1 = K + (m + 1) by omega]; exact d)
        have g := XR_byX m (b + 1) B (by rw [fK.2.2.1 6 (by omega), fK.2.2.1 7 (by omega)]; omega)
        exact XR_t f g K (by rw [show K + (1 + m) = K + (m + 1) by omega]; exact d)
theorem XR_rv3 : XR false 0 0 (1 + (1 + 1)) A (oX (rv3 A to)) := by
  unfold rv3
  exact XR_bX XR_flu (fun B _ => XR_bX (XR_ver (fun _ => by omega) (fun q => by omega)) (fun C _ => XR_flu))
theorem kcL_68x : ∀ m s (A : tS), s < 256 → (∀ i, i < m → A 42 ((s + i) % 256) < 6200) → ∀ b, 6200 ≤ b → kcL m s A 68 b = A 68 b
  | 0, _, _, _, _ => fun _ _ => rfl
  | m + 1, s, A, hs, h => fun b hb => by
    rw [kcL_s]
    have v0 := h 0 (by omega)
    rw [show (s + 0) % 256 = s from Nat.mod_eq_of_lt hs] at v0
    rw [kcL_68x m ((s + 1) % 256) (kc1 A s) (Nat.mod_lt _ (by omega)) (fun i hi => by
      rw [kc1_o (by decide) (by decide) (by decide) (by decide), show ((s + 1) % 256 + i) % 256 = (s + (i + 1)) % 256 by omega]
      exact h (i + 1) (by omega)) b hb]
    unfold kc1
    have ne : b ≠ A 42 s := by omega
    split
    · rw [kp_o (by decide) (by decide) (by decide), up2_j ne]
    · rw [up2_j ne]
theorem rvX_x {X : tS ⊕ tS} (hd : dsk A (K + 6200)) (h68 : ∀ b, 6200 ≤ b → A 68 b = 0) (hX : rvX (rv1 A) J fr to = X) : dsk (oX X) K ∧ (∀ o, o ≠ 35 → o ≠ 49 → o ≠ 68 → o ≠ 69 → (o < 39 ∨ 46 < o) → oX X o = A o) ∧ (∀ b, 6200 ≤ b → oX X 68 b = 0) ∧ (∀ q, q = 0 ∨ q = 6 ∨ q = 7 ∨ q = 57 ∨ q = 34 ∨ q = 28 → oX X 35 q = A 35 q) := by
  subst hX
  have e : ∀ q, q ≠ 16 → q ≠ 18 → rv1 A 35 q = A 35 q := fun q a b => by rw [rv1_35, if_neg b, if_neg a]
  have d1 : dsk (rv1 A) (K + 6200) := by
    obtain ⟨x1, x2, x3, x4, x5, x6, x7⟩ := hd
    unfold dsk
    rw [e 6 (by decide) (by decide), e 7 (by decide) (by decide), e 15 (by decide) (by decide), e 20 (by decide) (by decide), e 21 (by decide) (by decide), rv1_35 16, if_neg (by decide), if_pos rfl]
    exact ⟨x1, x2, x3, by omega, x5, x6, fun i hi => by omega⟩
  have o2 : ∀ o, o ≠ 69 → rv2 (rv1 A) J fr to o = rv1 A o := fun o ho => by
    funext j
    unfold rv2
    rw [byN_o ho, fl_row ho]
  have r68 : ∀ b, 6200 ≤ b → rv1 A 68 b = 0 := fun b hb => by
    unfold rv1 kcA
    rw [up2_rown (by decide), fl_row (by decide), up2_rown (by decide), kcL_68x _ _ _ hd.2.2.1 (fun i hi => ?_) b hb, fl_at, if_neg (fun q => by omega)]
    · exact h68 b hb
    · rw [fl_row (by decide)]
      have := hd.2.2.2.2.2.2 i hi
      have h6 := hd.1
      have h7 := hd.2.1
      have := this.1
      omega
  have b7 := d1.2.1
  have b6 := d1.1
  have bk : blk (rv1 A) = 34 + rv1 A 35 6 + rv1 A 35 7 := rfl
  have d2 : dsk (rv2 (rv1 A) J fr to) (K + 6200) := dsk_cg d1 (fun q _ => by rw [o2 35 (by decide)]) (o2 42 (by decide)) (o2 43 (by decide))
  have x : XR false 0 0 (blk (rv1 A) + (1 + (1 + 1))) (rv2 (rv1 A) J fr to) (oX (rvX (rv1 A) J fr to)) := by
    unfold rvX
    exact XR_bX (XR_byX (blk (rv1 A)) 0 _ (by rw [o2 35 (by decide), bk]; omega)) (fun B _ => XR_rv3)
  obtain ⟨x1, x2, x3, x4, x5⟩ := x K (dsk_le d2 (by omega))
  refine ⟨x1, fun o h1 h2 h3 h4 h5 => ?_, fun b hb => ?_, fun q hq => ?_⟩
  · rw [x2 o h1 h2 (fun k => by cases k.1) h5, o2 o h4, rv1_o h1 (by omega) h3]
  · rw [x2 68 (by decide) (by decide) (fun k => by cases k.1) (by omega), o2 68 (by decide)]
    exact r68 b hb
  · have e2 : ∀ q, rv2 (rv1 A) J fr to 35 q = rv1 A 35 q := fun q => by rw [o2 35 (by decide)]
    rw [e2] at x4 x5
    have e34 := e 34 (by decide) (by decide)
    have e28 := e 28 (by decide) (by decide)
    by_cases c : q = 34
    · rw [c]
      omega
    · by_cases c2 : q = 28
      · rw [c2]
        omega
      · rw [x3 q (by omega), e2, e q (by omega) (by omega)]
end RCV
