/-! ===== PURE: the reference puts a link's text ahead ===== -/
section RW2
variable {b0 fu : Nat} {σ τ : tM} {A : Nat → Nat → Nat} {N : Nat} {J : tJ}
theorem nd_t (h : okT A) {g : Nat} (hg : g < 64) {i : Nat} (hi : i < 80) : nd A g (5 + i) < 128 := by
  have := h (g * 95 + (5 + i))
  rw [bT_n hg (by omega)] at this
  unfold bN at this
  unfold nd
  repeat (first | omega | split at this)
theorem nd_4 (h : okT A) {g : Nat} (hg : g < 64) : nd A g 4 < 81 := by
  have := h (g * 95 + 4)
  rw [bT_n hg (by omega)] at this
  exact this
theorem byt {x : Nat} (h : x < 128) : (nI x).toInt8.toInt32 = nI x := sb_nI h
theorem vpb {x : Nat} (h : x < 128) : vp_nar .byte (nI x) = nI x := by
  rw [vp_nar_byte]
  exact byt h
/-- the text that comes: a link's, a slash, what is left -/
def txn (A : Nat → Nat → Nat) (g nx : Nat) (tx : Nat → Nat) : Nat → Nat := fun i => if i < nd A g 4 then nd A g (5 + i) else if i = nd A g 4 then 47 else tx (nx + (i - nd A g 4 - 1))
theorem exp16 {g nx s t u : Nat} {tx : Nat → Nat} (hg : g < 64) (hs : s ≤ 1000) (hnx : nx ≤ s) (ht : (t = b0 + 65 ∧ u = b0 + 66) ∨ (t = b0 + 66 ∧ u = b0 + 65)) : ∀ m i f σ, RM b0 J σ (up2 A 35 51 s) N → tA σ (b0 + 35) 49 = some t → tA σ (b0 + 35) 50 = some u → (∀ i, i < s → tI σ t i = nI (tx i) ∧ tx i < 128) → (∀ j, j < i → tI σ u j = nI (nd A g (5 + j))) → i + m = nd A g 4 → m < f → wp (FR b0) σ (L_X12_expand_16 b0 fu f (b0 + 35) (nI g) (nI nx) u (nI (nd A g 4)) (nI i) σ) (fun _ τ => RM b0 J τ (up2 A 35 51 (nd A g 4 + 1 + (s - nx))) N ∧ TD b0 τ (txn A g nx tx) (nd A g 4 + 1 + (s - nx))) := by
  have tu : t ≠ u := by omega
  have u35 : u ≠ b0 + 35 ∧ t ≠ b0 + 35 := by omega
  intro m
  induction m with
  | zero =>
    intro i f σ h t1 t2 t4 tc hi hf
    obtain ⟨f, rfl⟩ : ∃ q, f = q + 1 := ⟨f - 1, by omega⟩
    have L := h.ra.lay
    have hT : okT A := h.ok
    have n4 := nd_4 hT hg
    obtain ⟨ku1, ku2⟩ := ck65 L (t := u) (by omega)
    obtain ⟨kt1, kt2⟩ := ck65 L (t := t) (by omega)
    have hi4 : i = nd A g 4 := by omega
    subst hi4
    have e51 : tI σ (b0 + 35) 51 = nI s := by rw [rf_51 h.ra, up2_s]
    have c1 : nI s - nI nx = nI (s - nx) := nI_sb hnx
    have c2 : nI (nd A g 4) + 1 = nI (nd A g 4 + 1) := nI_1 _
    have z47 : vp_nar .byte (47 : Int32) = nI 47 := rfl
    unfold L_X12_expand_16
    rw [ltb_def, if_l (by omega) (by omega), if_pos (Nat.le_refl _)]
    simp only [rd_AI, rd_AL, rd_AIr, rd_ALr, rd_IL, rd_LI, rd_IA, rd_LA, rd_LIr, rd_ILr, ckR_sI, ckO_sI, ckR_sL, ckO_sL, ckR_sA, ckO_sA, ckR_sIr, ckO_sIr, ckR_sLr, ckO_sLr, ltb_def]
    rw [ckR_p ku1 ku2, ckI_n (by omega) (by omega), ckR_35 L, osm_p t1, ckR_p kt1 kt2, nI_cl (by omega), rd_IIa u35.1.symm, e51, c1, c2, z47]
    have ckc : ∀ (k : Option (Unit × tM)), ckC (nI nx) (nI (nd A g 4 + 1)) (nI (s - nx)) 2048 2048 k = k := fun k => by
      unfold ckC
      rw [nI_cl (by omega), nI_cl (by omega), nI_cl (by omega), if_pos ⟨⟨nI_pos (by omega), nI_pos (by omega), nI_pos (by omega)⟩, by omega, by omega⟩]
    have ckf : ∀ (k : Option (Unit × tM)), ckF (tI (sI σ u (nd A g 4) (nI 47)) t) (nI nx) (nI (s - nx)) k = k := fun k => by
      unfold ckF
      rw [nI_cl (by omega), nI_cl (by omega), if_pos]
      intro j hj
      obtain ⟨q1, q2⟩ := t4 (nx + j) (by omega)
      rw [rd_IIa tu, q1, byt q2]
    rw [ckc, ckf, osm_p t1, nI_cl (by omega), nI_cl (by omega), nI_cl (by omega), nI_add]
    generalize hF : va_cpy (tI (sI σ u (nd A g 4) (nI 47)) t) (tI (sI σ u (nd A g 4) (nI 47)) u) nx (nd A g 4 + 1) (s - nx) = Fu
    have hk : tk (sI (sA (sA (sIr (sI σ u (nd A g 4) (nI 47)) u Fu) (b0 + 35) 50 (some t)) (b0 + 35) 49 (some u)) (b0 + 35) 51 (nI (nd A g 4 + 1 + (s - nx)))) = tk σ := rfl
    have hA : ∀ x y, ¬ (x = b0 + 35 ∧ (y = 49 ∨ y = 50)) → tA (sI (sA (sA (sIr (sI σ u (nd A g 4) (nI 47)) u Fu) (b0 + 35) 50 (some t)) (b0 + 35) 49 (some u)) (b0 + 35) 51 (nI (nd A g 4 + 1 + (s - nx)))) x y = tA σ x y := fun x y hxy => by
      show tA (sA (sA (sIr (sI σ u (nd A g 4) (nI 47)) u Fu) (b0 + 35) 50 (some t)) (b0 + 35) 49 (some u)) x y = _
      rw [rd_AA, rd_AA]
      by_cases q : x = b0 + 35
      · rw [if_pos q, if_pos q, if_neg (by omega), if_neg (by omega)]
        rfl
      · rw [if_neg q, if_neg q]
        rfl
    have hI : ∀ x y, x ≠ b0 + 65 → x ≠ b0 + 66 → ¬ (x = b0 + 35 ∧ y = 51) → tI (sI (sA (sA (sIr (sI σ u (nd A g 4) (nI 47)) u Fu) (b0 + 35) 50 (some t)) (b0 + 35) 49 (some u)) (b0 + 35) 51 (nI (nd A g 4 + 1 + (s - nx)))) x y = tI σ x y := fun x y h1 h2 h3 => by
      rw [rd_II]
      have e : tI (sA (sA (sIr (sI σ u (nd A g 4) (nI 47)) u Fu) (b0 + 35) 50 (some t)) (b0 + 35) 49 (some u)) x y = tI σ x y := by
        show tI (sIr (sI σ u (nd A g 4) (nI 47)) u Fu) x y = _
        rw [rd_Ir, if_neg (by omega), rd_IIa (by omega)]
      by_cases q : x = b0 + 35
      · rw [if_pos q, if_neg (by omega), e]
      · rw [if_neg q, e]
    have a49 : tA (sI (sA (sA (sIr (sI σ u (nd A g 4) (nI 47)) u Fu) (b0 + 35) 50 (some t)) (b0 + 35) 49 (some u)) (b0 + 35) 51 (nI (nd A g 4 + 1 + (s - nx)))) (b0 + 35) 49 = some u := rd_AAs _ _ _ _
    have a50 : tA (sI (sA (sA (sIr (sI σ u (nd A g 4) (nI 47)) u Fu) (b0 + 35) 50 (some t)) (b0 + 35) 49 (some u)) (b0 + 35) 51 (nI (nd A g 4 + 1 + (s - nx)))) (b0 + 35) 50 = some t := by
      show tA (sA (sA (sIr (sI σ u (nd A g 4) (nI 47)) u Fu) (b0 + 35) 50 (some t)) (b0 + 35) 49 (some u)) (b0 + 35) 50 = some t
      rw [rd_AAj (by decide), rd_AAs]
    refine wp_ret (FR_walk hk rfl rfl rfl hA hI) ⟨RM_walk h (by omega) hk rfl hA hI (rd_IIs _ _ _ _) ?_, u, t, a49, a50, by omega, fun j hj => ?_⟩
    · rcases ht with ⟨rfl, rfl⟩ | ⟨rfl, rfl⟩
      · exact Or.inr ⟨a49, a50⟩
      · exact Or.inl ⟨a49, a50⟩
    · rw [rd_IIa u35.1]
      show tI (sIr (sI σ u (nd A g 4) (nI 47)) u Fu) u j = _ ∧ _
      rw [rd_Ir, if_pos rfl, ← hF]
      unfold txn
      by_cases q : nd A g 4 + 1 ≤ j
      · rw [pk_cpy_in q (by omega), rd_IIa tu, if_neg (by omega), if_neg (by omega), show nx + (j - nd A g 4 - 1) = nx + (j - (nd A g 4 + 1)) by omega]
        exact t4 _ (by omega)
      · rw [pk_cpy_out (Or.inl (by omega)), rd_II, if_pos rfl]
        by_cases w : j = nd A g 4
        · rw [if_pos w, if_neg (by omega), if_pos w]
          exact ⟨rfl, by omega⟩
        · rw [if_neg w, if_pos (by omega), tc j (by omega)]
          exact ⟨rfl, nd_t hT hg (by omega)⟩
  | succ m ih =>
    intro i f σ h t1 t2 t4 tc hi hf
    obtain ⟨f, rfl⟩ : ∃ q, f = q + 1 := ⟨f - 1, by omega⟩
    have L := h.ra.lay
    have hT : okT A := h.ok
    have n4 := nd_4 hT hg
    obtain ⟨ku1, ku2⟩ := ck65 L (t := u) (by omega)
    have ni := nd_t hT hg (i := i) (by omega)
    unfold L_X12_expand_16
    rw [ltb_def, if_l (by omega) (by omega), if_neg (by omega), ckR_35 L, show (5 : Int32) + nI i = nI (5 + i) from nI_add 5 i, node_nd h.ra hg (by omega), cll_some, ckR_p ku1 ku2, ckI_n (by omega) (by omega), ltb_def, ofi, nI_cl (by omega)]
    have e1 : nd (up2 A 35 51 s) g (5 + i) = nd A g (5 + i) := rfl
    rw [e1, byt ni, vpb ni]
    have hA : ∀ x y, ¬ (x = b0 + 35 ∧ (y = 49 ∨ y = 50)) → tA (sI σ u i (nI (nd A g (5 + i)))) x y = tA σ x y := fun x y _ => rfl
    have hI : ∀ x y, x ≠ b0 + 65 → x ≠ b0 + 66 → ¬ (x = b0 + 35 ∧ y = 51) → tI (sI σ u i (nI (nd A g (5 + i)))) x y = tI σ x y := fun x y h1 h2 _ => rd_IIa (by omega)
    refine wp_to (FR_good b0) (ih (i + 1) f _ (RM_walk h (by omega) rfl rfl hA hI ?_ ?_) t1 t2 (fun j hj => by rw [rd_IIa tu]; exact t4 j hj) (fun j hj => ?_) (by omega) (by omega)) (FR_walk rfl rfl rfl rfl hA hI)
    · rw [rd_IIa u35.1.symm, rf_51 h.ra, up2_s]
    · show (tA σ (b0 + 35) 49 = _ ∧ tA σ (b0 + 35) 50 = _) ∨ (tA σ (b0 + 35) 49 = _ ∧ tA σ (b0 + 35) 50 = _)
      rcases ht with ⟨rfl, rfl⟩ | ⟨rfl, rfl⟩
      · exact Or.inl ⟨t1, t2⟩
      · exact Or.inr ⟨t1, t2⟩
    · rw [rd_II, if_pos rfl]
      by_cases q : j = i
      · rw [if_pos q, q]
      · rw [if_neg q]
        exact tc j (by omega)
theorem expand_wp {g nx s : Nat} {tx : Nat → Nat} (h : RM b0 J σ (up2 A 35 51 s) N) (ht : TD b0 σ tx s) (hg : g < 64) (hs : s ≤ 1000) (hnx : nx ≤ s) (hu : 10000 ≤ fu) : wp (FR b0) σ (m_X12_expand b0 fu (b0 + 35) (nI g) (nI nx) σ) (fun _ τ => RM b0 J τ (up2 A 35 51 (nd A g 4 + 1 + (s - nx))) N ∧ TD b0 τ (txn A g nx tx) (nd A g 4 + 1 + (s - nx))) := by
  have L := h.ra.lay
  have hT : okT A := h.ok
  have n4 := nd_4 hT hg
  obtain ⟨t, u, t1, t2, t3, t4⟩ := ht
  refine wp_grw (FR_good b0) ?_
  rw [ckR_35 L, osm_p t2]
  show wp (FR b0) σ (cll (m_X12_node b0 fu (b0 + 35) (nI g) (nI 4) σ) _) _
  rw [node_nd h.ra hg (by omega), cll_some]
  exact exp16 hg hs hnx t3 (nd A g 4) 0 fu σ h t1 t2 t4 (fun j hj => by omega) (by omega) (by omega)
end RW2
