/-! ===== PURE: the class's Space: obtain, release ===== -/
/-- the first free cell -/
def isF (C : tS) (c : Nat) : Prop := 34 ≤ c ∧ c < C 10 7 ∧ C 12 c = 1 ∧ ∀ k, 34 ≤ k → k < c → C 12 k ≠ 1
def ob1 (C : tS) (c n : Nat) : tS := ldR (adoC (up2 (up2 (up2 C 10 14 c) 10 9 (C 10 9 - 1)) 10 15 (C 10 15 + 1)) c (C 10 15 + 1) n) c (fun _ => 0)
section SV
variable {b0 fu : Nat} {σ τ : tM} {C : tS} {D : tD}
theorem ldR_o {c p : Nat} {w : Nat → Nat} (h : p ≠ 11) : ldR C c w p = C p := by
  funext q
  unfold ldR
  rw [if_neg (fun r => h r.1)]
theorem mrk_o {c p : Nat} {g : Bool} (h : p ≠ 11) : mrkC C c g p = C p := up2_rown h
theorem ado_o {c b n p : Nat} (h1 : p ≠ 12) (h2 : p ≠ 13) (h3 : p ≠ 14) : adoC C c b n p = C p := by
  unfold adoC
  split
  · rw [up2_rown h3, up2_rown h2, up2_rown h1]
  · rfl
theorem ci_tou {c : Nat} (hc : ci C) : ci (touC C c) := by
  unfold touC
  split
  · rename_i e
    obtain ⟨e1, e2, e3⟩ := e
    obtain ⟨⟨c1, c2, c3⟩, ⟨c4, c5, c6⟩, c7⟩ := hc
    have g : ∀ q, q ≠ 11 → up2 (up2 C 15 c 1) 10 11 (C 10 11 + 1) 10 q = C 10 q := fun q hq => by rw [up2_j hq, up2_o (by decide)]
    have g15 : ∀ k, up2 (up2 C 15 c 1) 10 11 (C 10 11 + 1) 15 k = if k = c then 1 else C 15 k := fun k => by
      rw [up2_o (by decide)]
      by_cases q : k = c
      · rw [if_pos q, q, up2_s]
      · rw [if_neg q, up2_j q]
    have go : ∀ p, p ≠ 10 → p ≠ 15 → up2 (up2 C 15 c 1) 10 11 (C 10 11 + 1) p = C p := fun p h1 h2 => by rw [up2_rown h1, up2_rown h2]
    refine ⟨⟨by rw [g 7 (by decide)]; exact c1, by rw [g 7 (by decide)]; exact c2, by rw [g 8 (by decide)]; exact c3⟩, ⟨?_, ?_, ?_⟩, fun k hk => ?_⟩
    · have t := cn_on (p := fun k => C 15 k != 0) (q := fun k => up2 (up2 C 15 c 1) 10 11 (C 10 11 + 1) 15 k != 0) (x := c) (by simp [e3]) (by show (_ != 0) = true; rw [g15, if_pos rfl]; rfl) 2034 0 (Nat.zero_le _) (by omega) (fun i _ _ hi => by rw [g15, if_neg hi])
      rw [up2_s, t, c4]
    · rw [g 12 (by decide), go 16 (by decide) (by decide)]
      exact c5
    · rw [g 13 (by decide), go 17 (by decide) (by decide)]
      exact c6
    · rw [g 7 (by decide)] at hk
      rw [go 17 (by decide) (by decide), go 16 (by decide) (by decide), g15, if_neg (by omega)]
      exact c7 k hk
  · exact hc
theorem tou_o {c p : Nat} (h1 : p ≠ 10) (h2 : p ≠ 15) : touC C c p = C p := by
  unfold touC
  split
  · rw [up2_rown h1, up2_rown h2]
  · rfl
theorem tou_10 {c q : Nat} (h : q ≠ 11) : touC C c 10 q = C 10 q := by
  unfold touC
  split
  · rw [up2_j h, up2_o (by decide)]
  · rfl
theorem ob1_10 {c n q : Nat} (h1 : q ≠ 9) (h2 : q ≠ 14) (h3 : q ≠ 15) : ob1 C c n 10 q = C 10 q := by
  unfold ob1
  rw [ldR_o (by decide), ado_o (by decide) (by decide) (by decide), up2_j h3, up2_j h1, up2_j h2]
theorem ob1_o {c n p : Nat} (h0 : p ≠ 10) (h1 : p ≠ 11) (h2 : p ≠ 12) (h3 : p ≠ 13) (h4 : p ≠ 14) : ob1 C c n p = C p := by
  unfold ob1
  rw [ldR_o h1, ado_o h2 h3 h4, up2_rown h0, up2_rown h0, up2_rown h0]
theorem ci_ob1 {c n : Nat} (hc : ci C) : ci (ob1 C c n) := ci_cong hc (fun q hq => ob1_10 (by omega) (by omega) (by omega)) (ob1_o (by decide) (by decide) (by decide) (by decide) (by decide)) (ob1_o (by decide) (by decide) (by decide) (by decide) (by decide)) (ob1_o (by decide) (by decide) (by decide) (by decide) (by decide))
theorem ci_mrk {c : Nat} {g : Bool} (hc : ci C) : ci (mrkC C c g) := ci_11 hc
theorem obtain28 (h : CM b0 σ C D) (hc : ci C) (hs : sk C) {c n : Nat} (hf : isF C c) (hn : n < 64) (hb : C 10 15 + 1 < 1000000) (hu : 3000 ≤ fu) (mt : Bool) : wp (FC b0) σ (J_X5_obtain_28 b0 fu (b0 + 10) (nI n) (nI (b2n mt)) (nI c) σ) (fun v τ => v = lN ((C 10 15 + 1) * 65536 + c) ∧ CM b0 τ (obC C c n mt) D) := by
  obtain ⟨f1, f2, f3, f4⟩ := hf
  have L := h.lay
  have c2 := hc.1.2.1
  have p9 : 0 < C 10 9 := by
    rw [hs.1]
    exact cn_pos (x := c) (by simp [f3]) _ _ f1 (by omega)
  have b9 := cb_10 h.ca 9
  unfold J_X5_obtain_28
  have h1 : CM b0 (sI σ (b0 + 10) 14 (nI c)) (up2 C 10 14 c) D := CM_fix (o := 10) (j := 14) h rfl rfl (by show _ < 2147483648; omega)
  rw [ckC_10 L, cf_10_7 h1.ca, up2_j (by decide), if_t (by omega) (by omega), if_pos f2, cf_10_9 h1.ca, up2_j (by decide), show nI (C 10 9) - (1 : Int32) = nI (C 10 9 - 1) from nI_sb (b := 1) (by omega)]
  have h2 : CM b0 (sI (sI σ (b0 + 10) 14 (nI c)) (b0 + 10) 9 (nI (C 10 9 - 1))) (up2 (up2 C 10 14 c) 10 9 (C 10 9 - 1)) D := CM_fix (o := 10) (j := 9) h1 rfl rfl (by show _ < 2147483648; omega)
  rw [cf_10_15 h2.ca, up2_j (by decide), up2_j (by decide), show nI (C 10 15) + (1 : Int32) = nI (C 10 15 + 1) from nI_add _ 1]
  have h3 : CM b0 (sI (sI (sI σ (b0 + 10) 14 (nI c)) (b0 + 10) 9 (nI (C 10 9 - 1))) (b0 + 10) 15 (nI (C 10 15 + 1))) (up2 (up2 (up2 C 10 14 c) 10 9 (C 10 9 - 1)) 10 15 (C 10 15 + 1)) D := CM_fix (o := 10) (j := 15) h2 rfl rfl (by show _ < 2147483648; omega)
  rw [rd_IIs]
  have hc3 : ci (up2 (up2 (up2 C 10 14 c) 10 9 (C 10 9 - 1)) 10 15 (C 10 15 + 1)) := ci_cong hc (fun q hq => by rw [up2_j (by omega), up2_j (by omega), up2_j (by omega)]) (by rw [up2_rown (by decide), up2_rown (by decide), up2_rown (by decide)]) (by rw [up2_rown (by decide), up2_rown (by decide), up2_rown (by decide)]) (by rw [up2_rown (by decide), up2_rown (by decide), up2_rown (by decide)])
  refine wp_from (FC_good b0) (FC_2 (FC_sI h.rf (by omega)) (FC_2 (FC_sI h1.rf (by omega)) (FC_sI h2.rf (by omega)))) (wp_bind (FC_good b0) (adopt_c (fu := fu) h3 hc3 (by omega) (by omega) hn) ?_)
  intro _ ρ q
  rw [ckC_10 q.lay]
  refine wp_bind (FC_good b0) (load0_c (fu := fu) q (by omega) (by omega) (by omega)) ?_
  intro _ ρ q
  have q : CM b0 ρ (ob1 C c n) D := q
  rw [ckC_10 q.lay]
  refine wp_bind (FC_good b0) (mark_c (fu := fu) q f1 (by omega) true) ?_
  intro _ ρ q
  rw [ckC_10 q.lay]
  refine wp_bind (FC_good b0) (touch_c (fu := fu) (c := 1) q (ci_mrk (ci_ob1 hc)) (by omega)) ?_
  intro _ ρ q
  have e15 : ∀ X : tS, touC X 1 10 15 = X 10 15 := fun X => tou_10 (by decide)
  have eo : ob1 C c n 10 15 = C 10 15 + 1 := by
    unfold ob1
    rw [ldR_o (by decide), ado_o (by decide) (by decide) (by decide), up2_s]
  have fin : ∀ (ρ : tM) (X : tS), CM b0 ρ X D → X 10 15 = C 10 15 + 1 → X = obC C c n mt → wp (FC b0) ρ (J_X5_obtain_99 b0 fu (b0 + 10) (nI c) ρ) (fun v τ => v = lN ((C 10 15 + 1) * 65536 + c) ∧ CM b0 τ (obC C c n mt) D) := by
    intro ρ X qx x15 ex
    unfold J_X5_obtain_99
    have e3 : lN (C 10 15 + 1) <<< (((16 : Int32)).toInt64 &&& 63) = lN ((C 10 15 + 1) * 65536) := wb_shl (k := 16) _ (by omega)
    rw [ckC_10 qx.lay, cf_10_15 qx.ca, x15, nI_l (by omega), nI_l (by omega), e3, g_or (k := 16) rfl (by omega) (by omega)]
    refine wp_ret ((FC_good b0).1 _) ⟨rfl, ?_⟩
    rw [← ex]
    exact qx
  show wp (FC b0) ρ (if nI (b2n mt) = nI 0 then _ else _) _
  cases mt with
  | false =>
    rw [if_pos (show nI (b2n false) = nI 0 from rfl)]
    exact fin ρ _ q (by rw [e15, mrk_o (by decide), eo]) rfl
  | true =>
    rw [if_neg (show ¬ nI (b2n true) = nI 0 by decide), ckC_10 q.lay]
    refine wp_bind (FC_good b0) (touch_c (fu := fu) (c := c) q (ci_tou (ci_mrk (ci_ob1 hc))) (by omega)) ?_
    intro _ ρ q
    exact fin ρ _ q (by rw [tou_10 (by decide), e15, mrk_o (by decide), eo]) rfl
theorem obtain5 (h : CM b0 σ C D) (hc : ci C) (hs : sk C) {c n : Nat} (hf : isF C c) (hn : n < 64) (hb : C 10 15 + 1 < 1000000) (hu : 3000 ≤ fu) (mt : Bool) : ∀ m k f, k + m = c → 34 ≤ k → m < f → wp (FC b0) σ (L_X5_obtain_5 b0 fu f (b0 + 10) (nI n) (nI (b2n mt)) (nI k) σ) (fun v τ => v = lN ((C 10 15 + 1) * 65536 + c) ∧ CM b0 τ (obC C c n mt) D) := by
  have L := h.lay
  have c2 := hc.1.2.1
  have hf0 := hf
  obtain ⟨f1, f2, f3, f4⟩ := hf
  intro m
  induction m with
  | zero =>
    intro k f hk h34 hff
    obtain ⟨f, rfl⟩ : ∃ q, f = q + 1 := ⟨f - 1, by omega⟩
    have : k = c := by omega
    subst this
    unfold L_X5_obtain_5
    rw [ltb_def, ckC_10 L, cf_10_7 h.ca, if_l (by omega) (by omega), if_neg (by omega), osm_p (rfC_10_1 L), ckC_12 L, ckI_n (by omega) (by omega), nI_cl (by omega), cd_12 h.ca, if_pos ((m1_0 (cb_12 h.ca k)).1.mpr f3)]
    exact obtain28 h hc hs hf0 hn hb hu mt
  | succ m ih =>
    intro k f hk h34 hff
    obtain ⟨f, rfl⟩ : ∃ q, f = q + 1 := ⟨f - 1, by omega⟩
    unfold L_X5_obtain_5
    rw [ltb_def, ckC_10 L, cf_10_7 h.ca, if_l (by omega) (by omega), if_neg (by omega), osm_p (rfC_10_1 L), ckC_12 L, ckI_n (by omega) (by omega), nI_cl (by omega), cd_12 h.ca, if_neg (fun r => f4 k h34 (by omega) ((m1_0 (cb_12 h.ca k)).1.mp r)), ltb_def, ofi]
    exact ih (k + 1) f (by omega) (by omega) (by omega)
theorem obtain_c (h : CM b0 σ C D) (hc : ci C) (hs : sk C) {c n : Nat} (hf : isF C c) (hn : n < 64) (hb : C 10 15 + 1 < 1000000) (hu : 3000 ≤ fu) (mt : Bool) : wp (FC b0) σ (m_X5_obtain b0 fu (b0 + 10) (nI n) (nI (b2n mt)) σ) (fun v τ => v = lN ((C 10 15 + 1) * 65536 + c) ∧ CM b0 τ (obC C c n mt) D) := by
  have c2 := hc.1.2.1
  have hle : C 10 14 ≤ c := by
    refine Classical.byContradiction (fun q => ?_)
    exact hs.2.2.2 c hf.1 (by omega) hf.2.2.1
  have h34 := hs.2.2.1.1
  have f2 := hf.2.1
  refine wp_grw (FC_good b0) ?_
  rw [ckC_10 h.lay, ltb_def, cf_10_14 h.ca]
  exact obtain5 h hc hs hf hn hb hu mt (c - C 10 14) (C 10 14) fu (by omega) h34 (by omega)
theorem release_c (h : CM b0 σ C D) (hc : ci C) (hs : sk C) {c : Nat} (hx : c < 2147483648) (hg : C 10 16 + 1 < 2147483648) (mt : Bool) : wp (FC b0) σ (m_X5_release b0 fu (b0 + 10) (nI c) (nI (b2n mt)) σ) (fun _ τ => CM b0 τ (relC C c mt) D) := by
  have L := h.lay
  have c2 := hc.1.2.1
  have l10 : C 10 10 ≤ 2000 := by rw [hs.2.1]; exact Nat.le_trans (cn_le _ _ _) (by omega)
  refine wp_grw (FC_good b0) ?_
  unfold J_X5_release_24 J_X5_release_70 relC
  show wp (FC b0) σ (if nI c < nI 34 then _ else _) _
  rw [if_t hx (by omega), ckC_10 L, cf_10_7 h.ca, if_l (by omega) hx]
  by_cases e0 : c < 34
  · rw [if_pos e0, if_neg (by omega)]
    exact wp_ret ((FC_good b0).1 _) h
  rw [if_neg e0]
  by_cases e1 : C 10 7 ≤ c
  · rw [if_pos e1, if_neg (by omega)]
    exact wp_ret ((FC_good b0).1 _) h
  rw [if_neg e1, osm_p (rfC_10_1 L), ckC_12 L, ckI_n (by omega) (by omega), nI_cl hx, cd_12 h.ca, osm_p (rfC_10_1 L), ckC_12 L, ckI_n (by omega) (by omega), cf_10_16 h.ca]
  by_cases e2 : C 12 c = 0
  · rw [if_pos ((m1_n1 (cb_12 h.ca c)).mpr e2), if_pos ⟨by omega, by omega, e2⟩]
    have h1 : CM b0 (sI σ (b0 + 12) c (nI (C 10 16))) (up2 C 12 c (C 10 16 + 1)) D := CM_fix (o := 12) h rfl (by show nI (C 10 16) = nI (C 10 16 + 1) - 1; exact (nI_sb (a := C 10 16 + 1) (b := 1) (by omega)).symm) hg
    rw [cf_10_10 h1.ca, up2_o (by decide), show nI (C 10 10) + (1 : Int32) = nI (C 10 10 + 1) from nI_add _ 1]
    have h2 : CM b0 (sI (sI σ (b0 + 12) c (nI (C 10 16))) (b0 + 10) 10 (nI (C 10 10 + 1))) (up2 (up2 C 12 c (C 10 16 + 1)) 10 10 (C 10 10 + 1)) D := CM_fix (o := 10) (j := 10) h1 rfl rfl (by show _ < 2147483648; omega)
    have hc2 : ci (up2 (up2 C 12 c (C 10 16 + 1)) 10 10 (C 10 10 + 1)) := ci_cong hc (fun q hq => by rw [up2_j (by omega), up2_o (by decide)]) (by rw [up2_rown (by decide), up2_rown (by decide)]) (by rw [up2_rown (by decide), up2_rown (by decide)]) (by rw [up2_rown (by decide), up2_rown (by decide)])
    refine wp_from (FC_good b0) (FC_2 (FC_sI h.rf (by omega)) (FC_sI h1.rf (by omega))) (wp_bind (FC_good b0) (mark_c (fu := fu) h2 (by omega) (by omega) false) ?_)
    intro _ ρ q
    rw [ckC_10 q.lay]
    refine wp_bind (FC_good b0) (touch_c (fu := fu) (c := 1) q (ci_mrk hc2) (by omega)) ?_
    intro _ ρ q
    rw [ckC_10 q.lay]
    refine wp_bind (FC_good b0) (clean_c (fu := fu) (c := c) q (ci_tou (ci_mrk hc2)) hx) ?_
    intro _ ρ q
    show wp (FC b0) ρ (if nI (b2n mt) = nI 0 then _ else _) _
    cases mt with
    | false =>
      rw [if_pos (show nI (b2n false) = nI 0 from rfl)]
      exact wp_ret ((FC_good b0).1 _) q
    | true =>
      rw [if_neg (show ¬ nI (b2n true) = nI 0 by decide), ckC_10 q.lay]
      refine wp_bind (FC_good b0) (revoke_c (fu := fu) (c := c) q (ci_cle (ci_tou (ci_mrk hc2))) (by omega)) ?_
      intro _ ρ q
      exact wp_ret ((FC_good b0).1 _) q
  · rw [if_neg (fun r => e2 ((m1_n1 (cb_12 h.ca c)).mp r)), if_neg (fun r => e2 r.2.2)]
    exact wp_ret ((FC_good b0).1 _) h
end SV
