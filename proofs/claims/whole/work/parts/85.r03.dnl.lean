/-! ===== PURE: nameless nodes go, in both ===== -/
/-- rows that a change of the tree leaves -/
def KR (A B : tS) : Prop := (∀ o, o ≠ 35 → o ≠ 36 → ¬ (47 ≤ o ∧ o ≤ 52) → B o = A o) ∧ (∀ q, q ≠ 34 → B 35 q = A 35 q) ∧ A 35 34 ≤ B 35 34
section DNL
variable {bi : Nat → Nat} {w : Nat → Nat × Nat} {C X A B Y : tS} {t n m k d i sz : Nat}
theorem KP.kr (h : KP A B) : KR A B := ⟨h.2.1, h.2.2.1, h.2.2.2⟩
theorem KR_r : KR A A := ⟨fun _ _ _ _ => rfl, fun _ _ => rfl, Nat.le_refl _⟩
theorem KR_t (h : KR A B) (g : KR B Y) : KR A Y := ⟨fun o a b c => by rw [g.1 o a b c, h.1 o a b c], fun q a => by rw [g.2.1 q a, h.2.1 q a], Nat.le_trans h.2.2 g.2.2⟩
theorem KR_N {j v : Nat} : KR A (setN A n j v) := by
  unfold setN
  exact ⟨fun o a b c => by rw [up2_rown (by omega), up2_rown b], fun q _ => by rw [up2_o (by decide), up2_o (by decide)], by rw [up2_o (by decide), up2_o (by decide)]; exact Nat.le_refl _⟩
/-- no blocks, no tables -/
theorem ptr0 (hF : TF A) (hn : n < 64) (h : ∀ i, i < 1064 → hasA A n i = 0) : ∀ i, i < 10 → nd A n (85 + i) = 0 := by
  have sl : ∀ i, i < 1064 → slo A n i = 0 := fun i hi => by rw [hs_slo hi]; exact h i hi
  have tb : ∀ q, q < 32 → slo A n (2100 + q) = 0 := fun q hq => by
    refine Classical.byContradiction (fun c => ?_)
    obtain ⟨k, k1, k2⟩ := hF n (2100 + q) hn (by unfold vs; omega) (by omega) c
    have e : chS (2100 + q) k = 40 + (2100 + q - 2100) * 32 + k := by
      unfold chS
      rw [if_neg (by omega), if_neg (by omega)]
    rw [e] at k2
    exact k2 (sl _ (by omega))
  intro i hi
  by_cases c : i < 8
  · have := h i (by omega)
    unfold hasA at this
    rw [if_pos c] at this
    exact this
  · by_cases c8 : i = 8
    · subst c8
      refine Classical.byContradiction (fun q => ?_)
      obtain ⟨k, k1, k2⟩ := hF n 2000 hn (by unfold vs; omega) (by omega) q
      have e : chS 2000 k = 8 + k := by
        unfold chS
        rw [if_pos rfl]
      rw [e] at k2
      exact k2 (sl _ (by omega))
    · have : i = 9 := by omega
      subst this
      refine Classical.byContradiction (fun q => ?_)
      obtain ⟨k, k1, k2⟩ := hF n 2001 hn (by unfold vs; omega) (by omega) q
      have e : chS 2001 k = 2100 + k := by
        unfold chS
        rw [if_neg (by omega), if_pos rfl]
      rw [e] at k2
      exact k2 (tb k k1)
/-- a file's size, and the tree's form -/
theorem PH_sz (h : SR bi w C A) (hP : PH t w A) (hn : n < 64) (h1 : nd A n 0 = 1) (hz : sz ≤ 272384) : SR bi w (reC C n sz) (szA A n sz) ∧ PH t w (szA A n sz) := by
  obtain ⟨g1, g2, g3, g4, g5, g6, g7, g8⟩ := SR_sz h hn h1 hz (hP.file hn h1)
  have b1 := (nd_k h.ok hn).2.1
  refine ⟨g1, PH_file hP hn h1 g1.ok g1.ti (g4 hP.tf) (KP_sz hn (by omega)) (fun n' a b => by rw [g5 n' 1 a (by omega), if_neg (fun q => b q.1)]) (fun n' s' a b c => ?_) (fun i hi q => ?_)⟩
  · rcases g2 n' s' a b with q | q
    · exact q
    · exact absurd q.1 c
  · rw [g5 n 1 hn (by omega), if_pos ⟨rfl, rfl⟩] at q
    exact g3 i hi q
theorem op_no (h : ∀ x, x < 16 → A 71 x = 0) : opA A n = false := by
  unfold opA
  have : sr (fun h => A 71 h == n + 1) 0 16 = 16 := sr_miss (fun k hk => by
    rw [h k hk]
    simp)
  rw [this]
  rfl
/-- a node without a name -/
theorem dn_free (h : SR bi w C A) (hP : PH t w A) (hn : n < 64) (hk : nd A n 0 = 1 ∨ nd A n 0 = 3) (h0 : nd A n 2 = 0) : SR bi w (disC C n) (setN (if nd A n 0 = 1 then szA A n 0 else A) n 0 0) ∧ PH t w (setN (if nd A n 0 = 1 then szA A n 0 else A) n 0 0) ∧ KR A (setN (if nd A n 0 = 1 then szA A n 0 else A) n 0 0) := by
  have S := SR_dis h hn hP.tf (fun q => hP.file hn q) (fun q => h.ti.2.2.1 n hn q (by omega))
  have b1 := (nd_k h.ok hn).2.1
  by_cases c : nd A n 0 = 1
  · rw [if_pos c] at S ⊢
    obtain ⟨g1, g2⟩ := PH_sz (sz := 0) h hP hn c (by omega)
    have kp := KP_sz (A := A) (sz := 0) hn (by omega)
    have k0 : nd (szA A n 0) n 0 = 1 := by rw [kp.nd hn (by omega) (by omega)]; exact c
    have k2 : nd (szA A n 0) n 2 = 0 := by rw [kp.nd hn (by omega) (by omega)]; exact h0
    have fz := (SR_sz (sz := 0) h hn c (by omega) (hP.file hn c)).2.2.1
    refine ⟨S, PH_un g2 hn (Or.inl k0) k2 (ptr0 g2.tf hn (fun i hi => fz i hi (by omega))) S.ti, KR_t kp.kr KR_N⟩
  · rw [if_neg c] at S ⊢
    exact ⟨S, PH_un hP hn hk h0 (h.ti.2.2.1 n hn c (by omega)) S.ti, KR_N⟩
theorem dn_step (h : SR bi w C A) (hP : PH t w A) (hn : n < 64) (h71 : ∀ x, x < 16 → A 71 x = 0) : SR bi w (if (kiC C n = 1 ∨ kiC C n = 3) ∧ naC C n = 0 then disC C n else C) (if nd A n 0 = 1 ∨ nd A n 0 = 3 then mfA A n else A) ∧ PH t w (if nd A n 0 = 1 ∨ nd A n 0 = 3 then mfA A n else A) ∧ KR A (if nd A n 0 = 1 ∨ nd A n 0 = 3 then mfA A n else A) := by
  obtain ⟨k0, k1⟩ := hd_c h.ok h.mr hn
  rw [k0]
  by_cases c : nd A n 0 = 1 ∨ nd A n 0 = 3
  · obtain ⟨k2, -⟩ := k1 (by omega)
    rw [k2, if_pos c]
    unfold mfA
    rw [op_no h71]
    by_cases d : nd A n 2 = 0
    · rw [if_pos ⟨c, d⟩, if_neg (by rw [d]; simp)]
      exact dn_free h hP hn c d
    · rw [if_neg (fun q => d q.2), if_pos (Or.inl (by omega))]
      exact ⟨h, hP, KR_r⟩
  · rw [if_neg (fun q => c q.1), if_neg c]
    exact ⟨h, hP, KR_r⟩
theorem dn_all : ∀ m n (C A : tS), SR bi w C A → PH t w A → n + m ≤ 64 → (∀ x, x < 16 → A 71 x = 0) → SR bi w (dnl n m C) (mfL n m A) ∧ PH t w (mfL n m A) ∧ KR A (mfL n m A)
  | 0, _, _, _, h, hP, _, _ => ⟨h, hP, KR_r⟩
  | m + 1, n, C, A, h, hP, hn, h71 => by
    obtain ⟨g1, g2, g3⟩ := dn_step (n := n) h hP (by omega) h71
    obtain ⟨i1, i2, i3⟩ := dn_all m (n + 1) _ _ g1 g2 (by omega) (fun x hx => by rw [g3.1 71 (by decide) (by decide) (by omega)]; exact h71 x hx)
    exact ⟨i1, i2, KR_t g3 i3⟩
theorem KC_dnl : ∀ m n (C : tS), KC C (dnl n m C)
  | 0, _, _ => KC_r
  | m + 1, n, C => by
    unfold dnl
    refine KC_t ?_ (KC_dnl m (n + 1) _)
    split
    · exact KC_dis
    · exact KC_r
theorem sz_le (h : SR bi w C A) (hn : n < 64) : szC C n ≤ 272384 := by
  obtain ⟨k0, k1⟩ := hd_c h.ok h.mr hn
  obtain ⟨b0, b1, b2, b3, b4⟩ := nd_k h.ok hn
  by_cases c : nd A n 0 = 0
  · have e := (h.mr.2.2.1 n hn).1
    rw [if_pos c] at e
    have : szC C n = 0 := by
      unfold szC nwC
      rw [Nat.add_zero, e]
    omega
  · rw [(k1 c).2.2]
    split <;> omega
/-- nameless nodes go: the class's method -/
theorem discardNameless_c {b0 fu : Nat} {σ : tM} {D : tD} (hu : 3000 ≤ fu) (q : CM b0 σ C D) (h : SR bi w C A) (hP : PH t w A) (h71 : ∀ x, x < 16 → A 71 x = 0) : wp (FC b0) σ (m_X8_discardNameless b0 fu (b0 + 18) σ) (fun _ τ => CM b0 τ (dnl 0 64 C) D) := by
  refine wp_grw (FC_good b0) ?_
  have z0 : (0 : Int32) = nI 0 := rfl
  rw [z0]
  refine dnl2 hu 64 0 fu σ C q h.rk (by omega) (by omega) (fun k X hX hk => ?_)
  rw [hX]
  exact sz_le (dn_all k 0 C A h hP (by omega) h71).1 (by omega)
/-- a block that is dropped is in its place alone -/
theorem drop_ok (hT : TI w A) (ho : okT A) (hn : n < 64) (hi : i < 1064) : dropOk A n i := by
  intro h0
  have uz : ∀ r, us A r → A 36 (6080 + r * 274) = 1 := fun r hu => by
    have := ho (6080 + r * 274)
    have e := bT_r (w := 0) r (by omega)
    rw [Nat.add_zero] at e
    rw [e] at this
    have b : bR 0 = 2 := rfl
    rw [b] at this
    unfold us at hu
    omega
  have pl : ∀ s x, vs s → slo A n s = x → x ≠ 0 → us A (x - 1) ∧ w (x - 1) = (n, s) := fun s x hs e hx => by
    obtain ⟨a1, a2, a3⟩ := hT.2.1 n s (x - 1) hn hs (by omega)
    exact ⟨a2, a3⟩
  obtain ⟨r1, r2⟩ := pl i (hasA A n i) (Or.inl hi) (hs_slo hi) h0
  refine ⟨uz _ r1, fun h8 => ?_⟩
  have l0 : leafA A n i ≠ 0 := fun q => by
    unfold hasA at h0
    rw [if_neg (by omega), if_pos q] at h0
    exact h0 rfl
  have ls : ∃ s, vs s ∧ 2000 ≤ s ∧ s ≠ 2001 ∧ slo A n s = leafA A n i := by
    by_cases c : i < 40
    · refine ⟨2000, by unfold vs; omega, by omega, by omega, ?_⟩
      unfold leafA
      rw [if_pos c]
      rfl
    · refine ⟨2100 + (i - 40) / 32, by unfold vs; omega, by omega, by omega, ?_⟩
      unfold slo leafA
      rw [if_neg (by omega), if_neg (by omega), if_pos (by omega), if_neg c, show 2100 + (i - 40) / 32 - 2100 = (i - 40) / 32 by omega]
  obtain ⟨s, s1, s2, s3, s4⟩ := ls
  obtain ⟨l1, l2⟩ := pl s _ s1 s4 l0
  refine ⟨uz _ l1, fun q => ?_, fun h40 => ?_⟩
  · rw [q, l2] at r2
    have := congrArg Prod.snd r2
    have : s = i := this
    omega
  · have t0 : nd A n 94 ≠ 0 := fun q => by
      unfold leafA at l0
      rw [if_neg (by omega), if_pos q] at l0
      exact l0 rfl
    obtain ⟨t1, t2⟩ := pl 2001 (nd A n 94) (by unfold vs; omega) rfl t0
    refine ⟨uz _ t1, t0, fun q => ?_, fun q => ?_⟩
    · rw [q, l2] at t2
      have := congrArg Prod.snd t2
      have : s = 2001 := this
      omega
    · rw [q, t2] at r2
      have := congrArg Prod.snd r2
      have : (2001 : Nat) = i := this
      omega
theorem okS_of (h : SR bi w C A) (h34 : A 35 34 < 1000000) : okS A := ⟨h.zm.1.2.2.2.2, h.zm.1.2.2.2.1, h34⟩
theorem dd_ok (hn : n < 64) : ∀ m (C A : tS), SR bi w C A → nd A n 0 = 1 → m ≤ 1064 → A 35 34 < 1000000 → ddOk n sz m A
  | 0, _, _, _, _, _, _ => trivial
  | m + 1, C, A, h, hk, hm, h34 => by
    obtain ⟨g1, g2, g3, g4, g5⟩ := SR_drop (i := m) h hn (Or.inl hk) (by omega) (fun q => by omega)
    refine Or.inr ⟨drop_ok h.ti h.ok hn (by omega), okS_of h h34, dd_ok hn m _ _ g1 ?_ (by omega) ?_⟩
    · rw [g4.2.2.2.1 n 0 hn (by omega)]
      exact hk
    · rw [g4.1 34]
      exact h34
/-- the state in which blocks begin to be dropped -/
theorem SR_z0 (h : SR bi w C A) (hn : n < 64) (hk : nd A n 0 = 1) (hz : sz ≤ 272384) {e : Nat} (he : e < 272384) : SR bi w (zbC (up2 (re1 C n sz) 19 n 1) n e) (zb (up2 (setN A n 1 sz) 50 n 1) n e) ∧ nd (zb (up2 (setN A n 1 sz) 50 n 1) n e) n 0 = 1 ∧ zb (up2 (setN A n 1 sz) 50 n 1) n e 35 34 = A 35 34 := by
  obtain ⟨k0, k1⟩ := hd_c h.ok h.mr hn
  obtain ⟨k1, k2, k3⟩ := k1 (by omega)
  obtain ⟨r1, r2, r3, r4, r5⟩ := setN_r (A := A) (v := sz) (x := 1) hn (by omega) (by omega)
  have hO := okT_sz h.ok hn hz
  have H1 : SR bi w (re1 C n sz) (setN A n 1 sz) := by
    unfold re1
    refine SR_hdr h hn r1 r2 r3 (by omega) hO ?_ ?_ ?_ ?_
    · rw [k0, r4 n 0 (by omega), if_neg (by omega)]
    · rw [k1, r4 n 2 (by omega), if_neg (by omega)]
    · rw [k2, r4 n 3 (by omega), if_neg (by omega)]
    · have x0 : nd (setN A n 1 sz) n 0 = 1 := by rw [r4 n 0 (by omega), if_neg (by omega)]; exact hk
      have x1 : nd (setN A n 1 sz) n 1 = sz := by rw [r4 n 1 (by omega), if_pos ⟨rfl, rfl⟩]
      rw [x0, x1, if_neg (by decide)]
  have H2 : SR bi w (up2 (re1 C n sz) 19 n 1) (up2 (setN A n 1 sz) 50 n 1) := SR_chg H1 ⟨fun q => by omega, fun q => by omega⟩
  have n0 : nd (up2 (setN A n 1 sz) 50 n 1) n 0 = 1 := by rw [nd_50, r4 n 0 (by omega), if_neg (by omega)]; exact hk
  obtain ⟨q1, q2, q3⟩ := SR_zb (e := e) H2 hn n0 he
  refine ⟨q1, ?_, ?_⟩
  · have e0 : nd (zb (up2 (setN A n 1 sz) 50 n 1) n e) n 0 = nd (up2 (setN A n 1 sz) 50 n 1) n 0 := by
      unfold nd
      rw [q2 36 (by decide) (by decide)]
    rw [e0]
    exact n0
  · rw [q2 35 (by decide) (by decide), up2_o (by decide), r3 35 (by decide) (by decide)]
theorem mf1_ok (h : SR bi w C A) (hn : n < 64) (h34 : A 35 34 < 1000000) : mf1Ok A n := by
  intro _ _ hk _
  have b1 := (nd_k h.ok hn).2.1
  obtain ⟨q1, q2, q3⟩ := SR_z0 (sz := 0) (e := 0) h hn hk (by omega) (by omega)
  exact dd_ok hn _ _ _ q1 q2 (by omega) (by rw [q3]; exact h34)
theorem mfL_ok : ∀ m n (C A : tS), SR bi w C A → PH t w A → n + m ≤ 64 → (∀ x, x < 16 → A 71 x = 0) → A 35 34 < 1000000 → mfLok n m A
  | 0, _, _, _, _, _, _, _, _ => trivial
  | m + 1, n, C, A, h, hP, hn, h71, h34 => by
    obtain ⟨g1, g2, g3⟩ := dn_step (n := n) h hP (by omega) h71
    have e34 : (if nd A n 0 = 1 ∨ nd A n 0 = 3 then mfA A n else A) 35 34 = A 35 34 := by
      split
      · unfold mfA
        split
        · rfl
        · have s34 : ∀ (Z : tS), setN Z n 0 0 35 34 = Z 35 34 := fun Z => by
            unfold setN
            rw [up2_o (by decide), up2_o (by decide)]
          rw [s34]
          split
          · rename_i c
            exact (SR_sz (sz := 0) h (by omega) c (by omega) (hP.file (by omega) c)).2.2.2.2.2.1 34
          · rfl
      · rfl
    exact ⟨fun _ => mf1_ok h (by omega) h34, mfL_ok m (n + 1) _ _ g1 g2 (by omega) (fun x hx => by rw [g3.1 71 (by decide) (by decide) (by omega)]; exact h71 x hx) (by rw [e34]; exact h34)⟩
end DNL
