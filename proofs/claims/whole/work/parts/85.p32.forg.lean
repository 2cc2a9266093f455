/-! ===== PURE: the reference forgets, second half ===== -/
/-- the k-th record moved g places ahead, its lists fi places -/
def mv7 (B : tS) (k g fi : Nat) : tS :=
  up2 (up2 (up2 (up2 (up2 (up2 (up2 B 37 (k - g) (B 37 k)) 38 (k - g) (B 38 k)) 39 (k - g) (B 39 k)) 40 (k - g) (B 40 k)) 41 (k - g) (B 41 k - fi)) 42 (k - g) (B 42 k)) 43 (k - g) (B 43 k)
def mvL (g fi : Nat) : Nat → Nat → tS → tS
  | _, 0, B => B
  | k, m + 1, B => mvL g fi (k + 1) m (mv7 B k g fi)
theorem mv7_at {B : tS} {k g fi : Nat} (f i : Nat) : mv7 B k g fi f i = if 37 ≤ f ∧ f ≤ 43 ∧ i = k - g then (if f = 41 then B 41 k - fi else B f k) else B f i := by
  unfold mv7 up2
  by_cases h : 37 ≤ f ∧ f ≤ 43
  · have : f = 37 ∨ f = 38 ∨ f = 39 ∨ f = 40 ∨ f = 41 ∨ f = 42 ∨ f = 43 := by omega
    rcases this with rfl | rfl | rfl | rfl | rfl | rfl | rfl <;> by_cases q : i = k - g <;> simp [q]
  · have h1 : f ≠ 37 ∧ f ≠ 38 ∧ f ≠ 39 ∧ f ≠ 40 ∧ f ≠ 41 ∧ f ≠ 42 ∧ f ≠ 43 := by omega
    obtain ⟨e1, e2, e3, e4, e5, e6, e7⟩ := h1
    rw [if_neg e1, if_neg e2, if_neg e3, if_neg e4, if_neg e5, if_neg e6, if_neg e7, if_neg (by omega)]
theorem mvL_at {g fi : Nat} (hg : 0 < g) : ∀ m k B f i, g ≤ k → mvL g fi k m B f i = if 37 ≤ f ∧ f ≤ 43 ∧ k - g ≤ i ∧ i < k - g + m then (if f = 41 then B 41 (i + g) - fi else B f (i + g)) else B f i
  | 0, k, B, f, i, hk => by unfold mvL; rw [if_neg (by omega)]
  | m + 1, k, B, f, i, hk => by
    unfold mvL
    rw [mvL_at hg m (k + 1) _ f i (by omega), mv7_at, mv7_at, mv7_at]
    by_cases h : 37 ≤ f ∧ f ≤ 43
    · by_cases q : i = k - g
      · rw [if_neg (show ¬ (37 ≤ f ∧ f ≤ 43 ∧ k + 1 - g ≤ i ∧ i < k + 1 - g + m) by omega), if_pos (show 37 ≤ f ∧ f ≤ 43 ∧ i = k - g from ⟨h.1, h.2, q⟩), if_pos (show 37 ≤ f ∧ f ≤ 43 ∧ k - g ≤ i ∧ i < k - g + (m + 1) from ⟨h.1, h.2, by omega, by omega⟩), show i + g = k by omega]
      · by_cases w : k - g ≤ i ∧ i < k - g + (m + 1)
        · rw [if_pos ⟨h.1, h.2, by omega, by omega⟩, if_neg (show ¬ (37 ≤ 41 ∧ 41 ≤ 43 ∧ i + g = k - g) by omega), if_neg (show ¬ (37 ≤ f ∧ f ≤ 43 ∧ i + g = k - g) by omega), if_pos (show 37 ≤ f ∧ f ≤ 43 ∧ k - g ≤ i ∧ i < k - g + (m + 1) from ⟨h.1, h.2, w⟩)]
        · rw [if_neg (by omega), if_neg (by omega), if_neg (by omega)]
    · rw [if_neg (by omega), if_neg (by omega), if_neg (by omega)]
section FH
variable {b0 fu : Nat} {σ τ : tM} {A B U : tS} {c : Nat → Nat} {N K un nl ns : Nat} {J : tJ}
theorem RL_tA {a i : Nat} {v : Int32} : tA (sI σ a i v) = tA σ ∧ tk (sI σ a i v) = tk σ ∧ tn (sI σ a i v) = tn σ := ⟨rfl, rfl, rfl⟩
/-- one place of the records, read and written ahead -/
theorem RL_step (h : RL b0 σ A B U c un ns nl) {f k g x : Nat} (hf : 37 ≤ f) (hf2 : f ≤ 43) (hk : k < c f) (hx : x ≤ B f k) : ∃ a n, tA σ (b0 + 35) f = some a ∧ tk σ a = .inr (0, n) ∧ (b0 ≤ a ∧ a < b0 + tn σ) ∧ k < n ∧ k - g < n ∧ n < 2147483648 ∧ tI σ a k = nI (B f k) ∧ RL b0 (sI σ a (k - g) (nI (B f k - x))) A (up2 B f (k - g) (B f k - x)) U c un ns nl ∧ FR b0 σ (sI σ a (k - g) (nI (B f k - x))) ∧ a ≠ b0 + 35 := by
  obtain ⟨a', n', r1, r2, r3, r4, r5, r6, r7, r8⟩ := RL_get (f := f) (i := k) h hf (by omega) hk
  obtain ⟨a, n, q1, q2, q3, q4, q5, q6, q7, q8⟩ := RL_set (f := f) (i := k - g) (v := B f k - x) h hf (by omega) (by omega) (by omega)
  have ea := Option.some.inj (q1.symm.trans r1)
  subst ea
  have en := (Prod.mk.inj (Sum.inr.inj (q2.symm.trans r2))).2
  subst en
  exact ⟨a, n, q1, q2, q3, r4, q4, q5, r7, q7, q8, q6⟩
theorem up2_ne {f g i j v : Nat} (h : f ≠ g) : up2 B g j v f i = B f i := up2_o h
set_option maxHeartbeats 4000000 in
theorem forget213 {g fi : Nat} (hg : 0 < g) (hfi : fi < 1000000000) : ∀ m k f σ B, RL b0 σ A B U c un ns nl → k + m = ns → g ≤ k → (∀ q, 37 ≤ q → q ≤ 43 → c q = ns) → (∀ i, k ≤ i → i < ns → fi ≤ B 41 i) → m < f → ns < 100000 → A 35 32 < 2147483648 → wp (FR b0) σ (L_X12_forget_213 b0 fu f (b0 + 35) (nI g) (nI fi) (nI k) σ) (fun _ τ => RL b0 τ (up2 A 35 35 (A 35 32)) (mvL g fi k m B) U c un (ns - g) nl) := by
  intro m
  induction m with
  | zero =>
    intro k f σ B h hk hgk hc hB hf hn h32
    obtain ⟨f, rfl⟩ : ∃ q, f = q + 1 := ⟨f - 1, by omega⟩
    have L := h.1.lay
    unfold L_X12_forget_213
    rw [ltb_def, ckR_35 L, (RL_sc h).2.1, if_l (by omega) (by omega), if_pos (show ns ≤ k by omega), nI_sb (by omega)]
    have h1 := RL_ns h (ns - g)
    rw [rf_32 h1.1]
    exact wp_ret ((FR_good b0).2.1 _ _ _ (FR_sI (refO_f 35 (by omega) (by omega))) (FR_sI (refO_f 35 (by omega) (by omega)))) (RL_fix h1 rfl rfl h32)
  | succ m ih =>
    intro k f σ B h hk hgk hc hB hf hn h32
    obtain ⟨f, rfl⟩ : ∃ q, f = q + 1 := ⟨f - 1, by omega⟩
    have L := h.1.lay
    have ck : ∀ q, 37 ≤ q → q ≤ 43 → k < c q := fun q h1 h2 => by rw [hc q h1 h2]; omega
    obtain ⟨a1, n1, p1, p2, p3, p4, p5, p6, p7, h1, f1, p8⟩ := RL_step (f := 37) (g := g) (x := 0) h (by omega) (by omega) (ck _ (by omega) (by omega)) (Nat.zero_le _)
    obtain ⟨a2, n2, q1, q2, q3, q4, q5, q6, q7, h2, f2, q8⟩ := RL_step (f := 38) (g := g) (x := 0) h1 (by omega) (by omega) (ck _ (by omega) (by omega)) (Nat.zero_le _)
    obtain ⟨a3, n3, r1, r2, r3, r4, r5, r6, r7, h3, f3, r8⟩ := RL_step (f := 39) (g := g) (x := 0) h2 (by omega) (by omega) (ck _ (by omega) (by omega)) (Nat.zero_le _)
    obtain ⟨a4, n4, s1, s2, s3, s4, s5, s6, s7, h4, f4, s8⟩ := RL_step (f := 40) (g := g) (x := 0) h3 (by omega) (by omega) (ck _ (by omega) (by omega)) (Nat.zero_le _)
    obtain ⟨a5, n5, t1, t2, t3, t4, t5, t6, t7, h5, f5, t8⟩ := RL_step (f := 41) (g := g) (x := fi) h4 (by omega) (by omega) (ck _ (by omega) (by omega)) (by rw [up2_ne (by decide), up2_ne (by decide), up2_ne (by decide), up2_ne (by decide)]; exact hB k (Nat.le_refl _) (by omega))
    obtain ⟨a6, n6, u1, u2, u3, u4, u5, u6, u7, h6, f6, u8⟩ := RL_step (f := 42) (g := g) (x := 0) h5 (by omega) (by omega) (ck _ (by omega) (by omega)) (Nat.zero_le _)
    obtain ⟨a7, n7, v1, v2, v3, v4, v5, v6, v7, h7, f7, v8⟩ := RL_step (f := 43) (g := g) (x := 0) h6 (by omega) (by omega) (ck _ (by omega) (by omega)) (Nat.zero_le _)
    have fi0 := hB k (Nat.le_refl _) (by omega)
    simp only [Nat.sub_zero] at h1 f1 h2 f2 h3 f3 h4 f4 h5 f5 h6 f6 h7 f7 q7 r7 s7 t7 u7 v7
    unfold L_X12_forget_213 J_X12_forget_270 J_X12_forget_320
    simp only [rd_AI, rd_AL, rd_AIr, rd_ALr, rd_IL, rd_LI, rd_IA, rd_LA, rd_LIr, rd_ILr, ckR_sI, ckO_sI, ckR_sL, ckO_sL, ckR_sA, ckO_sA, ckR_sIr, ckO_sIr, ckR_sLr, ckO_sLr, ltb_def]
    rw [ckR_35 L, (RL_sc h).2.1, if_l (by omega) (by omega), if_neg (show ¬ ns ≤ k by omega)]
    rw [nI_sb hgk]
    rw [osm_p p1, osm_p p1, ckR_p p2 p3, ckI_n p4 p6, ckR_p p2 p3, ckI_n p5 p6, nI_cl (by omega), nI_cl (by omega), p7]
    rw [osm_p (show tA σ (b0 + 35) 38 = some a2 from q1), osm_p (show tA σ (b0 + 35) 38 = some a2 from q1), ckR_p (show tk σ a2 = _ from q2) q3, ckI_n q4 q6, ckR_p (show tk σ a2 = _ from q2) q3, ckI_n q5 q6, q7]
    rw [osm_p (show tA σ (b0 + 35) 39 = some a3 from r1), osm_p (show tA σ (b0 + 35) 39 = some a3 from r1), ckR_p (show tk σ a3 = _ from r2) r3, ckI_n r4 r6, ckR_p (show tk σ a3 = _ from r2) r3, ckI_n r5 r6, r7]
    rw [ckR_35 L, osm_p (show tA σ (b0 + 35) 40 = some a4 from s1), osm_p (show tA σ (b0 + 35) 40 = some a4 from s1), ckR_p (show tk σ a4 = _ from s2) s3, ckI_n s4 s6, ckR_p (show tk σ a4 = _ from s2) s3, ckI_n s5 s6, s7]
    rw [osm_p (show tA σ (b0 + 35) 41 = some a5 from t1), osm_p (show tA σ (b0 + 35) 41 = some a5 from t1), ckR_p (show tk σ a5 = _ from t2) t3, ckI_n t4 t6, ckR_p (show tk σ a5 = _ from t2) t3, ckI_n t5 t6, t7, nI_sb (by rw [up2_ne (by decide), up2_ne (by decide), up2_ne (by decide), up2_ne (by decide)]; exact fi0)]
    rw [osm_p (show tA σ (b0 + 35) 42 = some a6 from u1), osm_p (show tA σ (b0 + 35) 42 = some a6 from u1), ckR_p (show tk σ a6 = _ from u2) u3, ckI_n u4 u6, ckR_p (show tk σ a6 = _ from u2) u3, ckI_n u5 u6, u7]
    rw [ckR_35 L, osm_p (show tA σ (b0 + 35) 43 = some a7 from v1), osm_p (show tA σ (b0 + 35) 43 = some a7 from v1), ckR_p (show tk σ a7 = _ from v2) v3, ckI_n v4 v6, ckR_p (show tk σ a7 = _ from v2) v3, ckI_n v5 v6, v7, ofi]
    have e7 : up2 (up2 (up2 (up2 (up2 (up2 (up2 B 37 (k - g) (B 37 k)) 38 (k - g) (up2 B 37 (k - g) (B 37 k) 38 k)) 39 (k - g) (up2 (up2 B 37 (k - g) (B 37 k)) 38 (k - g) (up2 B 37 (k - g) (B 37 k) 38 k) 39 k)) 40 (k - g) (up2 (up2 (up2 B 37 (k - g) (B 37 k)) 38 (k - g) (up2 B 37 (k - g) (B 37 k) 38 k)) 39 (k - g) (up2 (up2 B 37 (k - g) (B 37 k)) 38 (k - g) (up2 B 37 (k - g) (B 37 k) 38 k) 39 k) 40 k)) 41 (k - g) (B 41 k - fi)) 42 (k - g) (B 42 k)) 43 (k - g) (B 43 k) = mv7 B k g fi := rfl
    have hB7 : RL b0 _ A (mv7 B k g fi) U c un ns nl := h7
    refine wp_to (FR_good b0) (ih (k + 1) f _ _ hB7 (by omega) (by omega) hc (fun i h1 h2 => ?_) (by omega) hn h32) ?_
    · rw [mv7_at, if_neg (by omega)]
      exact hB i (by omega) h2
    · exact (FR_good b0).2.1 _ _ _ f1 ((FR_good b0).2.1 _ _ _ f2 ((FR_good b0).2.1 _ _ _ f3 ((FR_good b0).2.1 _ _ _ f4 ((FR_good b0).2.1 _ _ _ f5 ((FR_good b0).2.1 _ _ _ f6 f7)))))
end FH
