/-! ===== PURE: the reference undoes, whole ===== -/
/-- all numbers as behind a transaction -/
def ud0 (A : tS) (to en : Nat) (s : Nat → Nat) : tS := up2 (up2 (up2 (up2 (up2 (up2 (up2 (up2 (upR A 36 s) 35 35 to) 35 46 en) 35 33 en) 35 28 to) 35 29 to) 35 30 to) 35 31 to) 35 32 to
def rz : Nat → Nat → tS → tS
  | _, 0, A => A
  | k, m + 1, A => rz (k + 1) m (up2 (up2 A 49 k 0) 48 k 0)
def mfL : Nat → Nat → tS → tS
  | _, 0, A => A
  | n, m + 1, A => mfL (n + 1) m (if nd A n 0 = 1 ∨ nd A n 0 = 3 then mfA A n else A)
def mf1Ok (A : tS) (n : Nat) : Prop := nd A n 2 = 0 → opA A n = false → nd A n 0 = 1 → 0 < nd A n 1 → ddOk n 0 ((nd A n 1 - 1) / 256 + 1) (zb (up2 (setN A n 1 0) 50 n 1) n 0)
def mfLok : Nat → Nat → tS → Prop
  | _, 0, _ => True
  | n, m + 1, A => ((nd A n 0 = 1 ∨ nd A n 0 = 3) → mf1Ok A n) ∧ mfLok (n + 1) m (if nd A n 0 = 1 ∨ nd A n 0 = 3 then mfA A n else A)
def ud4 (A : tS) (to en : Nat) (s : Nat → Nat) : tS := baN 0 (A 35 7) (fl 71 0 0 16 (rz 0 (A 35 7) (egA (ud0 A to en s))))
def udA (A : tS) (to en : Nat) (s : Nat → Nat) : tS := mfL 0 64 (ud4 A to en s)
def udJ (J : tJ) (s : Nat → Nat) : tJ := (J.1, 0, 0, fun p q => p = 0 ∧ q = s)
section UE
variable {b0 fu : Nat} {σ τ : tM} {A B U : tS} {c : Nat → Nat} {N K K' un ns nl : Nat} {J : tJ}
theorem upR_up {o j x : Nat} {X : Nat → Nat} : upR (up2 A o j x) o X = upR A o X := by
  funext p q
  unfold upR up2
  by_cases h : p = o
  · rw [if_pos h, if_pos h]
  · rw [if_neg h, if_neg h, if_neg h]
theorem undo74 {to en ch : Nat} : ∀ m f σ A un, RL b0 σ A B U c un ns nl → okT A → (∀ i, i < un → U 2 i < 554080 ∧ U 3 i < bT (U 2 i)) → un = ch + m → un ≤ c 2 → un ≤ c 3 → un ≤ 131072 → m < f → ∃ τ, L_X12_undo_74 b0 fu f (b0 + 35) (nI to) (nI en) (nI ch) σ = J_X12_undo_128 b0 fu (b0 + 35) (nI to) (nI en) (sI (sI τ (b0 + 35) 4 0) (b0 + 35) 35 (nI to)) ∧ FR b0 σ τ ∧ RL b0 τ (upR A 36 (und (U 2) (U 3) ch un (A 36))) B U c ch ns nl ∧ okT (upR A 36 (und (U 2) (U 3) ch un (A 36))) := by
  intro m
  induction m with
  | zero =>
    intro f σ A un h hT hU hun hc2 hc3 hb hf
    obtain ⟨f, rfl⟩ : ∃ q, f = q + 1 := ⟨f - 1, by omega⟩
    have L := h.1.lay
    have e0 : un = ch := by omega
    subst e0
    have e1 : upR A 36 (und (U 2) (U 3) un un (A 36)) = A := by
      have : und (U 2) (U 3) un un (A 36) = A 36 := by
        cases un with
        | zero => rfl
        | succ n => show (if n + 1 ≤ n then _ else A 36) = A 36; rw [if_neg (by omega)]
      rw [this]
      funext p q
      unfold upR
      split
      · rename_i e; rw [e]
      · rfl
    rw [e1]
    refine ⟨σ, ?_, (FR_good b0).1 _, h, hT⟩
    unfold L_X12_undo_74
    rw [ltb_def, ckR_35 L, (RL_sc h).1, if_l (by omega) (by omega), if_pos (Nat.le_refl _)]
  | succ m ih =>
    intro f σ A un h hT hU hun hc2 hc3 hb hf
    obtain ⟨f, rfl⟩ : ∃ q, f = q + 1 := ⟨f - 1, by omega⟩
    obtain ⟨n, rfl⟩ : ∃ q, un = q + 1 := ⟨un - 1, by omega⟩
    have L := h.1.lay
    obtain ⟨u1, u2⟩ := hU n (by omega)
    have bu := bT_le (U 2 n)
    have h1 := RL_un h n
    obtain ⟨hr, ad, ln, hd, hl1, hb1⟩ := id h
    obtain ⟨a1, a2, a3, a4, a5, a6, a7, a8⟩ := hd.1 2 rfl
    obtain ⟨b1, b2, b3, b4, b5, b6, b7, b8⟩ := hd.1 3 rfl
    obtain ⟨x1, x2⟩ := a8 n (by omega)
    obtain ⟨y1, y2⟩ := b8 n (by omega)
    have m2 : mix U B 2 n = U 2 n := rfl
    have m3 : mix U B 3 n = U 3 n := rfl
    rw [m2] at x1 x2
    rw [m3] at y1 y2
    have n2 : ad 2 ≠ b0 + 35 := hd.ne rfl (Or.inr rfl)
    have n3 : ad 3 ≠ b0 + 35 := hd.ne rfl (Or.inr rfl)
    have h2 : RL b0 (sI (sI σ (b0 + 35) 4 (nI n)) (b0 + 36) (U 2 n) (nI (U 3 n))) (up2 A 36 (U 2 n) (U 3 n)) B U c n ns nl := RL_fix h1 rfl rfl (by show _ < 2147483648; omega)
    obtain ⟨τ, t1, t2, t3, t4⟩ := ih f _ _ n h2 (okT_up hT u2) (fun i hi => hU i (by omega)) (by omega) (by omega) (by omega) (by omega) (by omega)
    have eu : und (U 2) (U 3) ch (n + 1) (A 36) = und (U 2) (U 3) ch n (up2 A 36 (U 2 n) (U 3 n) 36) := by
      show (if ch ≤ n then und (U 2) (U 3) ch n (upN (A 36) (U 2 n) (U 3 n)) else A 36) = _
      rw [if_pos (by omega), up2_row]
    rw [upR_up] at t3 t4
    refine ⟨τ, ?_, (FR_good b0).2.1 _ _ _ ((FR_good b0).2.1 _ _ _ (FR_sI (refO_f 35 (by omega) (by omega))) (FR_sI (refO_f 36 (by omega) (by omega)))) t2, by rw [eu]; exact t3, by rw [eu]; exact t4⟩
    unfold L_X12_undo_74
    simp only [rd_AI, rd_AL, rd_AIr, rd_ALr, rd_IL, rd_LI, rd_IA, rd_LA, rd_LIr, rd_ILr, ckR_sI, ckO_sI, ckR_sL, ckO_sL, ckR_sA, ckO_sA, ckR_sIr, ckO_sIr, ckR_sLr, ckO_sLr, ltb_def]
    rw [ckR_35 L, (RL_sc h).1, if_l (by omega) (by omega), if_neg (show ¬ n + 1 ≤ ch by omega), show nI (n + 1) - 1 = nI n from nI_sb (a := n + 1) (b := 1) (by omega), osm_p (rfR_35_1 L), osm_p a1, ckR_p a2 ⟨by omega, a3⟩, rd_IIs, ckI_n (by omega) (by omega), osm_p b1, ckR_p b2 ⟨by omega, b3⟩, ckI_n (by omega) (by omega), ckR_36 L, nI_cl (by omega), rd_IIa n2, x1, ckI_n u1 (by omega), nI_cl (by omega), rd_IIa n3, y1]
    exact t1
theorem rz_wp (hu : 10000 ≤ fu) : ∀ m k f σ A, RM b0 J σ A N → k + m = A 35 7 → A 35 7 ≤ 2000 → m < f → ∃ τ, L_X12_undo_180 b0 fu f (b0 + 35) (nI k) σ = L_X12_undo_214 b0 fu fu (b0 + 35) 0 τ ∧ FR b0 σ τ ∧ RM b0 J τ (rz k m A) N := by
  intro m
  induction m with
  | zero =>
    intro k f σ A h hk h7 hf
    obtain ⟨f, rfl⟩ : ∃ q, f = q + 1 := ⟨f - 1, by omega⟩
    have L := h.ra.lay
    refine ⟨σ, ?_, (FR_good b0).1 _, h⟩
    unfold L_X12_undo_180
    rw [ltb_def, ckR_35 L, rf_7 h.ra, if_l (by omega) (by omega), if_pos (show A 35 7 ≤ k by omega)]
  | succ m ih =>
    intro k f σ A h hk h7 hf
    obtain ⟨f, rfl⟩ : ∃ q, f = q + 1 := ⟨f - 1, by omega⟩
    have L := h.ra.lay
    have h1 : RM b0 J (sI σ (b0 + 49) k 0) (up2 A 49 k 0) N := RM_fix (x := 0) h (o := 49) rfl (by decide) rfl (by decide)
    have h2 : RM b0 J (sI (sI σ (b0 + 49) k 0) (b0 + 48) k (vp_nar .boolean (0 : Int32))) (up2 (up2 A 49 k 0) 48 k 0) N := RM_fix (x := 0) h1 (o := 48) rfl (by decide) rfl (by decide)
    obtain ⟨τ, t1, t2, t3⟩ := ih (k + 1) f _ _ h2 (by show k + 1 + m = A 35 7; omega) h7 (by omega)
    refine ⟨τ, ?_, (FR_good b0).2.1 _ _ _ ((FR_good b0).2.1 _ _ _ (FR_sI (refO_f 49 (by omega) (by omega))) (FR_sI (refO_f 48 (by omega) (by omega)))) t2, t3⟩
    unfold L_X12_undo_180
    simp only [rd_AI, rd_AL, rd_AIr, rd_ALr, rd_IL, rd_LI, rd_IA, rd_LA, rd_LIr, rd_ILr, ckR_sI, ckO_sI, ckR_sL, ckO_sL, ckR_sA, ckO_sA, ckR_sIr, ckO_sIr, ckR_sLr, ckO_sLr, ltb_def]
    rw [ckR_35 L, rf_7 h.ra, if_l (by omega) (by omega), if_neg (show ¬ A 35 7 ≤ k by omega), osm_p (rfR_35_24 L), ckR_49 L, ckI_n (by omega) (by omega), osm_p (rfR_35_23 L), ckR_48 L, ckI_n (by omega) (by omega), ofi, nI_cl (by omega)]
    exact t1
theorem mfL_wp (hu : 10000 ≤ fu) : ∀ m n f σ A N, RM b0 J σ A N → n + m = 64 → m < f → N + 2 * m + 2 < 65536 → mfLok n m A → wp (FR b0) σ (L_X12_undo_242 b0 fu f (b0 + 35) (nI n) σ) (fun _ τ => RM b0 J τ (mfL n m A) (N + 2 * m)) := by
  intro m
  induction m with
  | zero =>
    intro n f σ A N h hn hf hN ho
    obtain ⟨f, rfl⟩ : ∃ q, f = q + 1 := ⟨f - 1, by omega⟩
    unfold L_X12_undo_242
    rw [ltb_def, show (64 : Int32) = nI 64 from rfl, if_l (by omega) (by omega), if_pos (show 64 ≤ n by omega)]
    exact wp_ret ((FR_good b0).1 _) h
  | succ m ih =>
    intro n f σ A N h hn hf hN ho
    obtain ⟨f, rfl⟩ : ∃ q, f = q + 1 := ⟨f - 1, by omega⟩
    have L := h.ra.lay
    have b0n : nd A n 0 < 2147483648 := bd_36 h.ra _
    obtain ⟨o1, o2⟩ := ho
    have hfree : (nd A n 0 = 1 ∨ nd A n 0 = 3) → wp (FR b0) σ (J_X12_undo_271 b0 fu (L_X12_undo_242 b0 fu f) (b0 + 35) (nI n) σ) (fun _ τ => RM b0 J τ (mfL n (m + 1) A) (N + 2 * (m + 1))) := fun e => by
      unfold J_X12_undo_271 J_X12_undo_277
      rw [ckR_35 L]
      refine wp_bind (FR_good b0) (maybeFree_wp h (by omega) (by omega) (by omega) (o1 e)) fun _ ρ h1 => ?_
      rw [ltb_def, ofi]
      rw [if_pos e] at o2
      have em : mfL n (m + 1) A = mfL (n + 1) m (mfA A n) := by
        show mfL (n + 1) m (if nd A n 0 = 1 ∨ nd A n 0 = 3 then mfA A n else A) = _
        rw [if_pos e]
      rw [em]
      exact mwp (ih (n + 1) f ρ _ (N + 2) h1 (by omega) (by omega) (by omega) o2) fun _ τ q => RM_le q (by omega)
    unfold L_X12_undo_242
    rw [ltb_def, show (64 : Int32) = nI 64 from rfl, if_l (by omega) (by omega), if_neg (show ¬ 64 ≤ n by omega), ckR_35 L]
    show wp (FR b0) σ (cll (m_X12_node b0 fu (b0 + 35) (nI n) (nI 0) σ) _) _
    rw [node_nd h.ra (by omega) (by omega), cll_some]
    show wp (FR b0) σ (if nI (nd A n 0) = nI 1 then _ else ckO b0 σ (b0 + 35) 11 (cll (m_X12_node b0 fu (b0 + 35) (nI n) (nI 0) σ) _)) _
    rw [if_e b0n (by omega), ckR_35 L, node_nd h.ra (by omega) (by omega), cll_some]
    by_cases e1 : nd A n 0 = 1
    · rw [if_pos e1]
      exact hfree (Or.inl e1)
    · rw [if_neg e1]
      show wp (FR b0) σ (if nI (nd A n 0) = nI 3 then _ else _) _
      rw [if_e b0n (by omega)]
      by_cases e3 : nd A n 0 = 3
      · rw [if_pos e3]
        exact hfree (Or.inr e3)
      · rw [if_neg e3]
        unfold J_X12_undo_277
        rw [ltb_def, ofi]
        have ne : ¬ (nd A n 0 = 1 ∨ nd A n 0 = 3) := by omega
        rw [if_neg ne] at o2
        have em : mfL n (m + 1) A = mfL (n + 1) m A := by
          show mfL (n + 1) m (if nd A n 0 = 1 ∨ nd A n 0 = 3 then mfA A n else A) = _
          rw [if_neg ne]
        rw [em]
        exact mwp (ih (n + 1) f σ A N h (by omega) (by omega) (by omega) o2) fun _ τ q => RM_le q (by omega)
theorem undo214 (hu : 10000 ≤ fu) : ∀ m k f σ A, RM b0 J σ A N → k + m = 16 → m < f → A 35 7 ≤ 2000 → A 35 6 ≤ 4096 → N + 130 < 65536 → mfLok 0 64 (baN 0 (A 35 7) (fl 71 0 k m A)) → wp (FR b0) σ (L_X12_undo_214 b0 fu f (b0 + 35) (nI k) σ) (fun _ τ => RM b0 J τ (mfL 0 64 (baN 0 (A 35 7) (fl 71 0 k m A))) (N + 128)) := by
  intro m
  induction m with
  | zero =>
    intro k f σ A h hk hf h7 h6 hN ho
    obtain ⟨f, rfl⟩ : ∃ q, f = q + 1 := ⟨f - 1, by omega⟩
    have L := h.ra.lay
    unfold L_X12_undo_214
    rw [ltb_def, show (16 : Int32) = nI 16 from rfl, if_l (by omega) (by omega), if_pos (show 16 ≤ k by omega), ckR_35 L]
    refine wp_bind (FR_good b0) (bytesAgain_wp h h7 h6 hu) fun _ ρ h1 => ?_
    exact mfL_wp hu 64 0 fu ρ _ N h1 (by omega) (by omega) (by omega) ho
  | succ m ih =>
    intro k f σ A h hk hf h7 h6 hN ho
    obtain ⟨f, rfl⟩ : ∃ q, f = q + 1 := ⟨f - 1, by omega⟩
    have L := h.ra.lay
    unfold L_X12_undo_214
    rw [ltb_def, show (16 : Int32) = nI 16 from rfl, if_l (by omega) (by omega), if_neg (show ¬ 16 ≤ k by omega), ckR_35 L, osm_p (rfR_35_58 L), ckR_71 L, ckI_n (by omega) (by omega), ltb_def, ofi, nI_cl (by omega)]
    have h1 : RM b0 J (sI σ (b0 + 71) k (-1)) (up2 A 71 k 0) N := RM_fix (x := 0) h (o := 71) rfl (by decide) rfl (by decide)
    have e7 : up2 A 71 k 0 35 7 = A 35 7 := rfl
    have ef : fl 71 0 k (m + 1) A = fl 71 0 (k + 1) m (up2 A 71 k 0) := rfl
    have key := ih (k + 1) f _ _ h1 (by omega) (by omega) h7 h6 hN (by rw [e7, ← ef]; exact ho)
    rw [e7, ← ef] at key
    exact wp_to (FR_good b0) key (FR_sI (refO_f 71 (by omega) (by omega)))
end UE
