/-! ===== PURE: the reference's lists ===== -/
/-- the reference's growing arrays, with the counts laid open -/
def RL (b0 : Nat) (σ : tM) (A B U : tS) (c : Nat → Nat) (un ns nl : Nat) : Prop := RA b0 σ A ∧ ∃ ad ln, RD0 b0 σ ad ln (mix U B) c un ns nl ∧ (ln 2 = ln 3 ∧ ∀ f, 37 ≤ f → f ≤ 43 → ln f = 64) ∧ ln 2 ≤ 131072
section RR
variable {b0 fu : Nat} {σ τ : tM} {A B U : tS} {c : Nat → Nat} {N K un nl ns : Nat} {J : tJ}
theorem RM_RL : RM b0 J σ A N ↔ okT A ∧ ∃ U un, RL b0 σ A J.1 U (cntD un J.2.1 J.2.2.1) un J.2.1 J.2.2.1 ∧ un + 2 * usd A ≤ N ∧ (∀ i, i < un → U 2 i < 554080 ∧ U 3 i < bT (U 2 i)) ∧ ∀ p s, J.2.2.2 p s → p ≤ un ∧ und (U 2) (U 3) p un (A 36) = s := by
  constructor
  · rintro ⟨hr, hT, ad, ln, U, un, hd, hl, hb, hu, hm⟩
    exact ⟨hT, U, un, ⟨hr, ad, ln, hd, hl, hb⟩, hu, hm⟩
  · rintro ⟨hT, U, un, ⟨hr, ad, ln, hd, hl, hb⟩, hu, hm⟩
    exact ⟨hr, hT, ad, ln, U, un, hd, hl, hb, hu, hm⟩
theorem mix_hi {f i : Nat} (h : ¬ f < 4) : mix U B f i = B f i := by unfold mix; rw [if_neg h]
theorem mix_up {f g j v i : Nat} (hg : ¬ g < 4) : mix U (up2 B g j v) f i = up2 (mix U B) g j v f i := by
  unfold mix up2
  by_cases e : f = g
  · subst e; simp [hg]
  · by_cases q : f < 4
    · simp [q, e]
    · simp [q, e]
/-- a store at the end of one of the arrays that grow -/
theorem RD0_push {ad ln : Nat → Nat} (hd : RD0 b0 σ ad ln (mix U B) c un ns nl) {f v : Nat} (hf : isD f = true) (hf4 : ¬ f < 4) (hc : c f < ln f) (hv : v < 2147483648) : RD0 b0 (sI σ (ad f) (c f) (nI v)) ad ln (mix U (up2 B f (c f) v)) (upN c f (c f + 1)) un ns nl := by
  obtain ⟨h1, h2, h3, h4⟩ := id hd
  refine ⟨fun g hg => ?_, h2, ?_, h4⟩
  · obtain ⟨a1, a2, a3, a4, a5, a6, a7, a8⟩ := h1 g hg
    by_cases e : g = f
    · subst e
      rw [upN_s]
      refine ⟨a1, a2, a3, a4, by omega, a6, a7, fun i hi => ?_⟩
      rw [rd_II, if_pos rfl, mix_up hf4]
      unfold up2
      rw [if_pos rfl]
      by_cases q : i = c g
      · rw [if_pos q, if_pos q]; exact ⟨rfl, hv⟩
      · rw [if_neg q, if_neg q]; exact a8 i (by omega)
    · rw [upN_n e]
      refine ⟨a1, a2, a3, a4, a5, a6, a7, fun i hi => ?_⟩
      rw [rd_IIa (fun q => e (h2 g f hg hf q)), mix_up hf4, up2_o e]
      exact a8 i hi
  · rw [rd_I1 _ _ _ _ (fun q => hd.ne hf (Or.inr rfl) q.symm)]
    exact h3
theorem RA_ad {ad ln : Nat → Nat} (h : RA b0 σ A) (hd : RD0 b0 σ ad ln B c un ns nl) {f j v : Nat} (hf : isD f = true) : RA b0 (sI σ (ad f) j (nI v)) A := RA_dyn h hd hf
theorem RL_push (h : RL b0 σ A B U c un ns nl) {f v : Nat} (hf : 37 ≤ f) (hf2 : f ≤ 43) (hc : c f < 64) (hv : v < 2147483648) : ∃ a n, tA σ (b0 + 35) f = some a ∧ tk σ a = .inr (0, n) ∧ (b0 ≤ a ∧ a < b0 + tn σ) ∧ c f < n ∧ n < 2147483648 ∧ a ≠ b0 + 35 ∧ RL b0 (sI σ a (c f) (nI v)) A (up2 B f (c f) v) U (upN c f (c f + 1)) un ns nl ∧ FR b0 σ (sI σ a (c f) (nI v)) := by
  obtain ⟨hr, ad, ln, hd, hl1, hb⟩ := h
  have hD : isD f = true := by simp [isD]; omega
  obtain ⟨a1, a2, a3, a4, a5, a6, a7, a8⟩ := hd.1 f hD
  have l64 := hl1.2 f hf hf2
  exact ⟨ad f, ln f, a1, a2, ⟨by omega, a3⟩, by omega, by omega, hd.ne hD (Or.inr rfl), ⟨RA_ad hr hd hD, ad, ln, RD0_push hd hD (by omega) (by omega) hv, hl1, hb⟩, FR_sI (refO_d f hD a1)⟩
theorem RL_get (h : RL b0 σ A B U c un ns nl) {f i : Nat} (hf : 37 ≤ f) (hf2 : f ≤ 44) (hi : i < c f) : ∃ a n, tA σ (b0 + 35) f = some a ∧ tk σ a = .inr (0, n) ∧ (b0 ≤ a ∧ a < b0 + tn σ) ∧ i < n ∧ n < 2147483648 ∧ a ≠ b0 + 35 ∧ tI σ a i = nI (B f i) ∧ B f i < 2147483648 := by
  obtain ⟨hr, ad, ln, hd, hl1, hb⟩ := h
  have hD : isD f = true := by simp [isD]; omega
  obtain ⟨a1, a2, a3, a4, a5, a6, a7, a8⟩ := hd.1 f hD
  obtain ⟨b1, b2⟩ := a8 i hi
  rw [mix_hi (by omega)] at b1 b2
  exact ⟨ad f, ln f, a1, a2, ⟨by omega, a3⟩, by omega, by omega, hd.ne hD (Or.inr rfl), b1, b2⟩
theorem RL_sc (h : RL b0 σ A B U c un ns nl) : tI σ (b0 + 35) 4 = nI un ∧ tI σ (b0 + 35) 36 = nI ns ∧ tI σ (b0 + 35) 45 = nI nl := by
  obtain ⟨hr, ad, ln, hd, hl1, hb⟩ := h
  exact hd.2.2.1
theorem RL_fix (h : RL b0 σ A B U c un ns nl) {o j x : Nat} {v : Int32} (ho : isA o j = true) (hv : v = decA o j x) (hx : x < bndA o) : RL b0 (sI σ (b0 + o) j v) (up2 A o j x) B U c un ns nl := by
  obtain ⟨hr, ad, ln, hd, hl1, hb⟩ := h
  refine ⟨RA_up hr hv hx, ad, ln, RD0_fix hd (isA_o ho) (fun e => ?_), hl1, hb⟩
  subst e
  refine ⟨fun q => ?_, fun q => ?_, fun q => ?_⟩ <;> (subst q; cases ho)
theorem RL_ns (h : RL b0 σ A B U c un ns nl) (m : Nat) : RL b0 (sI σ (b0 + 35) 36 (nI m)) A B U c un m nl := by
  obtain ⟨hr, ad, ln, hd, hl1, hb⟩ := h
  obtain ⟨h1, h2, ⟨s4, s36, s45⟩, h4⟩ := id hd
  refine ⟨RA_oth hr rfl, ad, ln, ⟨fun f hf => ?_, h2, ⟨?_, rd_IIs _ _ _ _, ?_⟩, h4⟩, hl1, hb⟩
  · obtain ⟨a1, a2, a3, a4, a5, a6, a7, a8⟩ := h1 f hf
    exact ⟨a1, a2, a3, a4, a5, a6, a7, fun i hi => by rw [rd_IIa (hd.ne hf (Or.inr rfl))]; exact a8 i hi⟩
  · rw [rd_IIj (by decide)]; exact s4
  · rw [rd_IIj (by decide)]; exact s45
theorem RL_nl (h : RL b0 σ A B U c un ns nl) (m : Nat) : RL b0 (sI σ (b0 + 35) 45 (nI m)) A B U c un ns m := by
  obtain ⟨hr, ad, ln, hd, hl1, hb⟩ := h
  obtain ⟨h1, h2, ⟨s4, s36, s45⟩, h4⟩ := id hd
  refine ⟨RA_oth hr rfl, ad, ln, ⟨fun f hf => ?_, h2, ⟨?_, ?_, rd_IIs _ _ _ _⟩, h4⟩, hl1, hb⟩
  · obtain ⟨a1, a2, a3, a4, a5, a6, a7, a8⟩ := h1 f hf
    exact ⟨a1, a2, a3, a4, a5, a6, a7, fun i hi => by rw [rd_IIa (hd.ne hf (Or.inr rfl))]; exact a8 i hi⟩
  · rw [rd_IIj (by decide)]; exact s4
  · rw [rd_IIj (by decide)]; exact s36
theorem RL_un (h : RL b0 σ A B U c un ns nl) (m : Nat) : RL b0 (sI σ (b0 + 35) 4 (nI m)) A B U c m ns nl := by
  obtain ⟨hr, ad, ln, hd, hl1, hb⟩ := h
  obtain ⟨h1, h2, ⟨s4, s36, s45⟩, h4⟩ := id hd
  refine ⟨RA_oth hr rfl, ad, ln, ⟨fun f hf => ?_, h2, ⟨rd_IIs _ _ _ _, ?_, ?_⟩, h4⟩, hl1, hb⟩
  · obtain ⟨a1, a2, a3, a4, a5, a6, a7, a8⟩ := h1 f hf
    exact ⟨a1, a2, a3, a4, a5, a6, a7, fun i hi => by rw [rd_IIa (hd.ne hf (Or.inr rfl))]; exact a8 i hi⟩
  · rw [rd_IIj (by decide)]; exact s36
  · rw [rd_IIj (by decide)]; exact s45
theorem list29 (hr : RA b0 σ A) {ad ln : Nat → Nat} (hd : RD0 b0 σ ad ln (mix U B) c un ns nl) (hl1 : ln 2 = ln 3 ∧ ∀ f, 37 ≤ f → f ≤ 43 → ln f = 64) (hb : ln 2 ≤ 131072) (hc : c 44 = nl) {v : Nat} (hv : v < 2147483648) (hl : nl < ln 44) : wp (FR b0) σ (J_X12_list_29 b0 fu (b0 + 35) (nI v) σ) (fun _ τ => RL b0 τ A (up2 B 44 nl v) U (upN c 44 (nl + 1)) un ns (nl + 1)) := by
  have L := hr.lay
  obtain ⟨h1, h2, ⟨s4, s36, s45⟩, h4⟩ := id hd
  obtain ⟨a1, a2, a3, a4, a5, a6, a7, a8⟩ := h1 44 rfl
  have m44 : ad 44 ≠ b0 + 35 := hd.ne rfl (Or.inr rfl)
  unfold J_X12_list_29
  rw [ckR_35 L, osm_p a1, ckR_p a2 ⟨by omega, a3⟩, s45, ckI_n hl (by omega), nI_cl (by omega), rd_IIa m44.symm, s45, nI_1]
  have p := RD0_push hd (f := 44) (v := v) rfl (by decide) (by omega) hv
  rw [hc] at p
  exact wp_ret ((FR_good b0).2.1 _ _ _ (FR_sI (refO_d 44 rfl a1)) (FR_sI (refO_f 35 (by omega) (by omega)))) (RL_nl ⟨RA_ad hr hd rfl, ad, ln, p, hl1, hb⟩ (nl + 1))
theorem list_wp (h : RL b0 σ A B U c un ns nl) (hc : c 44 = nl) {v : Nat} (hv : v < 2147483648) (hn : nl < 262144) : wp (FR b0) σ (m_X12_list b0 fu (b0 + 35) (nI v) σ) (fun _ τ => RL b0 τ A (up2 B 44 nl v) U (upN c 44 (nl + 1)) un ns (nl + 1)) := by
  obtain ⟨hr, ad, ln, hd, hl1, hb⟩ := id h
  have L := hr.lay
  obtain ⟨h1, h2, ⟨s4, s36, s45⟩, h4⟩ := id hd
  obtain ⟨a1, a2, a3, a4, a5, a6, a7, a8⟩ := h1 44 rfl
  rw [hc] at a5
  refine wp_grw (FR_good b0) ?_
  rw [ckR_35 L, osm_p a1, ckR_p a2 ⟨by omega, a3⟩, s45, if_e (by omega) (by omega)]
  by_cases g : nl = ln 44
  · have n2 : 2 * ln 44 ≤ 524288 := by omega
    rw [if_pos g, osm_p a1, show (2 : Int32) * nI nl = nI (2 * ln 44) by rw [g]; exact pk_mul 2 _, longer_eq hr a2 ⟨by omega, a3⟩ (by omega), cll_some, osm_some]
    have r1 := grown_ra (a := ad 44) (n := ln 44) hr (f := 44) rfl
    have r2 := grown_rd hr hd (f := 44) rfl n2
    have r3 := grown_fr hr hd (f := 44) rfl n2
    refine wp_from (FR_good b0) r3 ?_
    rw [ckO_sIr, ckR_35 (layR_new L)]
    refine list29 (σ := grown b0 σ (ad 44) 44 (ln 44)) r1 r2 ⟨?_, fun f f1 f2 => ?_⟩ ?_ hc hv ?_
    · rw [upN_n (by decide), upN_n (by decide)]; exact hl1.1
    · rw [upN_n (by omega)]; exact hl1.2 f f1 f2
    · rw [upN_n (by decide)]; exact hb
    · rw [upN_s]; omega
  · rw [if_neg g]
    exact list29 hr hd hl1 hb hc hv (by omega)
/-- blocks of a row, from k on, m of them, put to the end of the lists -/
def lsB (p : Nat → Bool) : Nat → Nat → tS → Nat → tS
  | _, 0, B, _ => B
  | k, m + 1, B, nl => if p k then lsB p (k + 1) m (up2 B 44 nl k) (nl + 1) else lsB p (k + 1) m B nl
theorem lsB_o {p : Nat → Bool} {f i : Nat} (hf : f ≠ 44) : ∀ m k B nl, lsB p k m B nl f i = B f i
  | 0, _, _, _ => rfl
  | m + 1, k, B, nl => by
    unfold lsB
    split
    · rw [lsB_o hf m, up2_o hf]
    · exact lsB_o hf m _ _ _
end RR
