/-! ===== PURE: the reference forgets ===== -/
section FG
variable {b0 fu : Nat} {σ τ : tM} {A B U : tS} {c : Nat → Nat} {N K un nl ns : Nat} {J : tJ}
/-- a place of the records anew -/
theorem RL_set (h : RL b0 σ A B U c un ns nl) {f i v : Nat} (hf : 37 ≤ f) (hf2 : f ≤ 44) (hi : i < c f) (hv : v < 2147483648) : ∃ a n, tA σ (b0 + 35) f = some a ∧ tk σ a = .inr (0, n) ∧ (b0 ≤ a ∧ a < b0 + tn σ) ∧ i < n ∧ n < 2147483648 ∧ a ≠ b0 + 35 ∧ RL b0 (sI σ a i (nI v)) A (up2 B f i v) U c un ns nl ∧ FR b0 σ (sI σ a i (nI v)) := by
  obtain ⟨hr, ad, ln, hd, hl1, hb⟩ := h
  have hD : isD f = true := by simp [isD]; omega
  obtain ⟨h1, h2, h3, h4⟩ := id hd
  obtain ⟨a1, a2, a3, a4, a5, a6, a7, a8⟩ := h1 f hD
  refine ⟨ad f, ln f, a1, a2, ⟨by omega, a3⟩, by omega, by omega, hd.ne hD (Or.inr rfl), ⟨RA_ad hr hd hD, ad, ln, ⟨fun g hg => ?_, h2, ?_, h4⟩, hl1, hb⟩, FR_sI (refO_d f hD a1)⟩
  · obtain ⟨b1, b2, b3, b4, b5, b6, b7, b8⟩ := h1 g hg
    refine ⟨b1, b2, b3, b4, b5, b6, b7, fun j hj => ?_⟩
    rw [mix_up (by omega)]
    by_cases e : g = f
    · subst e
      rw [rd_II, if_pos rfl]
      unfold up2
      rw [if_pos rfl]
      by_cases q : j = i
      · rw [if_pos q, if_pos q]; exact ⟨rfl, hv⟩
      · rw [if_neg q, if_neg q]; exact b8 j hj
    · rw [rd_IIa (fun q => e (h2 g f hg hD q)), up2_o e]
      exact b8 j hj
  · rw [rd_I1 _ _ _ _ (fun q => hd.ne hD (Or.inr rfl) q.symm)]
    exact h3
/-- an array's places moved to the front -/
theorem RD0_mv {ad ln : Nat → Nat} {X : tS} (hd : RD0 b0 σ ad ln X c un ns nl) {f s : Nat} (hf : isD f = true) (hs : s ≤ c f) : RD0 b0 (sIr σ (ad f) (va_cpy (tI σ (ad f)) (tI σ (ad f)) s 0 (c f - s))) ad ln (upR X f (fun i => X f (i + s))) (upN c f (c f - s)) un ns nl := by
  obtain ⟨h1, h2, h3, h4⟩ := id hd
  refine ⟨fun g hg => ?_, h2, ?_, h4⟩
  · obtain ⟨b1, b2, b3, b4, b5, b6, b7, b8⟩ := h1 g hg
    by_cases e : g = f
    · subst e
      rw [upN_s]
      refine ⟨b1, b2, b3, b4, by omega, b6, b7, fun j hj => ?_⟩
      rw [rd_Ir, if_pos rfl, pk_cpy_in (Nat.zero_le _) (by omega), Nat.sub_zero]
      have e2 : upR X g (fun i => X g (i + s)) g j = X g (j + s) := by simp [upR]
      rw [e2, Nat.add_comm s j]
      exact b8 (j + s) (by omega)
    · rw [upN_n e]
      refine ⟨b1, b2, b3, b4, b5, b6, b7, fun j hj => ?_⟩
      rw [rd_Ir, if_neg (fun q => e (h2 g f hg hf q)), upR_o e]
      exact b8 j hj
  · rw [rd_Ir, if_neg (fun q => hd.ne hf (Or.inr rfl) q.symm)]
    exact h3
theorem RA_mv {ad ln : Nat → Nat} {X : tS} {F : Nat → Int32} (h : RA b0 σ A) (hd : RD0 b0 σ ad ln X c un ns nl) {f : Nat} (hf : isD f = true) : RA b0 (sIr σ (ad f) F) A :=
  RA_same h h.1 fun o j e => by rw [rd_Ir, if_neg (fun q => hd.ne hf (isA_o e) q.symm)]
theorem mix_mvU {f s : Nat} (hf : f < 4) : upR (mix U B) f (fun i => mix U B f (i + s)) = mix (upR U f (fun i => U f (i + s))) B := by
  funext g i
  unfold upR mix
  by_cases e : g = f
  · subst e; simp [hf]
  · by_cases q : g < 4 <;> simp [e, q]
theorem mix_mvB {f s : Nat} (hf : ¬ f < 4) : upR (mix U B) f (fun i => mix U B f (i + s)) = mix U (upR B f (fun i => B f (i + s))) := by
  funext g i
  unfold upR mix
  by_cases e : g = f
  · subst e; simp [hf]
  · by_cases q : g < 4 <;> simp [e, q]
theorem RL_mv (h : RL b0 σ A B U c un ns nl) {f s : Nat} (hf : isD f = true) (hs : s ≤ c f) : ∃ a n, tA σ (b0 + 35) f = some a ∧ tk σ a = .inr (0, n) ∧ (b0 ≤ a ∧ a < b0 + tn σ) ∧ c f ≤ n ∧ n < 2147483648 ∧ a ≠ b0 + 35 ∧ FR b0 σ (sIr σ a (va_cpy (tI σ a) (tI σ a) s 0 (c f - s))) ∧ RL b0 (sIr σ a (va_cpy (tI σ a) (tI σ a) s 0 (c f - s))) A (if f < 4 then B else upR B f (fun i => B f (i + s))) (if f < 4 then upR U f (fun i => U f (i + s)) else U) (upN c f (c f - s)) un ns nl := by
  obtain ⟨hr, ad, ln, hd, hl1, hb⟩ := h
  obtain ⟨a1, a2, a3, a4, a5, a6, a7, a8⟩ := hd.1 f hf
  refine ⟨ad f, ln f, a1, a2, ⟨by omega, a3⟩, by omega, by omega, hd.ne hf (Or.inr rfl), FR_sIr (refO_d f hf a1), RA_mv hr hd hf, ad, ln, ?_, hl1, hb⟩
  have := RD0_mv hd hf hs
  by_cases q : f < 4
  · rw [if_pos q, if_pos q, ← mix_mvU q]; exact this
  · rw [if_neg q, if_neg q, ← mix_mvB q]; exact this
theorem RL_le {c2 : Nat → Nat} (h : RL b0 σ A B U c un ns nl) (e : ∀ f, isD f = true → c2 f ≤ c f) : RL b0 σ A B U c2 un ns nl := by
  obtain ⟨hr, ad, ln, ⟨h1, h2, h3, h4⟩, hl1, hb⟩ := h
  refine ⟨hr, ad, ln, ⟨fun f hf => ?_, h2, h3, h4⟩, hl1, hb⟩
  obtain ⟨a1, a2, a3, a4, a5, a6, a7, a8⟩ := h1 f hf
  have := e f hf
  exact ⟨a1, a2, a3, a4, by omega, a6, a7, fun i hi => a8 i (by omega)⟩
theorem nImax {x y : Nat} (hx : x < 1000000000) (hy : y < 1000000000) : (if (0 : Int32) < nI x - nI y then nI x - nI y else 0) = nI (x - y) := by
  by_cases h : y ≤ x
  · rw [nI_sb h]
    show (if nI 0 < nI (x - y) then nI (x - y) else nI 0) = _
    rw [if_t (by omega) (by omega)]
    by_cases q : 0 < x - y
    · rw [if_pos q]
    · rw [if_neg q, show x - y = 0 by omega]
  · have : nI x - nI y < 0 := pk_sneg (by omega) (by omega)
    rw [if_neg, show x - y = 0 by omega]
    · rfl
    · intro q
      have h1 := Int32.lt_iff_toInt_lt.mp this
      have h2 := Int32.lt_iff_toInt_lt.mp q
      have e0 : (0 : Int32).toInt = 0 := rfl
      omega
/-- where the changes of each transaction end, with some of them gone -/
def chB (fr : Nat) : Nat → Nat → tS → tS
  | _, 0, B => B
  | k, m + 1, B => chB fr (k + 1) m (up2 B 40 k (B 40 k - fr))
theorem chB_at (fr : Nat) : ∀ m k B f i, chB fr k m B f i = if f = 40 ∧ k ≤ i ∧ i < k + m then B 40 i - fr else B f i
  | 0, k, B, f, i => by unfold chB; rw [if_neg (by omega)]
  | m + 1, k, B, f, i => by
    unfold chB
    rw [chB_at fr m (k + 1)]
    unfold up2
    by_cases h : f = 40 ∧ k ≤ i ∧ i < k + (m + 1)
    · rw [if_pos h]
      obtain ⟨rfl, h1, h2⟩ := h
      by_cases q : i = k
      · subst q; rw [if_neg (by omega)]; simp
      · rw [if_pos ⟨rfl, by omega, by omega⟩]; simp [q]
    · rw [if_neg h, if_neg (by omega)]
      by_cases q : f = 40
      · rw [if_pos q, if_neg (by omega)]
      · rw [if_neg q]
theorem forget86 {fr : Nat} (hfr : fr < 1000000000) : ∀ m k f σ B, RL b0 σ A B U c un ns nl → k + m = ns → c 40 = ns → m < f → (∀ i, B 40 i < 1000000000) → ns < 100000 → ∃ τ B', L_X12_forget_86 b0 fu f (b0 + 35) (nI fr) (nI k) σ = J_X12_forget_118 b0 fu (b0 + 35) τ ∧ FR b0 σ τ ∧ B' = chB fr k m B ∧ RL b0 τ A B' U c un ns nl := by
  intro m
  induction m with
  | zero =>
    intro k f σ B h hk hc hf hB hn
    obtain ⟨f, rfl⟩ : ∃ q, f = q + 1 := ⟨f - 1, by omega⟩
    have L := h.1.lay
    refine ⟨σ, B, ?_, (FR_good b0).1 _, rfl, h⟩
    unfold L_X12_forget_86
    rw [ltb_def, ckR_35 L, (RL_sc h).2.1, if_l (by omega) (by omega), if_pos (show ns ≤ k by omega)]
  | succ m ih =>
    intro k f σ B h hk hc hf hB hn
    obtain ⟨f, rfl⟩ : ∃ q, f = q + 1 := ⟨f - 1, by omega⟩
    have L := h.1.lay
    obtain ⟨a, n, q1, q2, q3, q4, q5, q6, q7, q8⟩ := RL_set (f := 40) (i := k) (v := B 40 k - fr) h (by omega) (by omega) (by omega) (by have := hB k; omega)
    obtain ⟨a', n', r1, -, -, -, -, -, r7, -⟩ := RL_get (f := 40) (i := k) h (by omega) (by omega) (by omega)
    have ea := Option.some.inj (q1.symm.trans r1)
    subst ea
    obtain ⟨τ, B', t1, t2, t3, t4⟩ := ih (k + 1) f _ _ q7 (by omega) hc (by omega) (fun i => by have h1 := hB k; have h2 := hB i; unfold up2; rw [if_pos rfl]; split <;> omega) hn
    refine ⟨τ, B', ?_, (FR_good b0).2.1 _ _ _ q8 t2, t3, t4⟩
    unfold L_X12_forget_86
    rw [ltb_def, ckR_35 L, (RL_sc h).2.1, if_l (by omega) (by omega), if_neg (show ¬ ns ≤ k by omega), osm_p q1, osm_p q1, ckR_p q2 q3, ckI_n q4 q5, ckR_p q2 q3, ckI_n q4 q5, ltb_def, ltb_def, ofi, nI_cl (by omega), r7, nImax (hB k) hfr]
    exact t1
end FG
