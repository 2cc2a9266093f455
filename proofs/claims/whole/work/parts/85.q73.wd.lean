/-! ===== PURE: writeDirty, in both ===== -/
section WDT
variable {Φ : tPh} {b0 fu : Nat} {σ τ : tM} {bi sp : Nat → Nat} {w : Nat → Nat × Nat} {C C' X : tS} {D D' D'' : tD} {A B : tS} {J J' : tJ} {K n m k r b id : Nat}
/-- a version of data -/
theorem ver3 (hd : dsk A K) : verA A b 3 id 43 (nxS A) = 3 ∧ (∀ j, j < 256 → verA A b 3 id 45 (256 * nxS A + j) = A 47 (256 * (b - 34 - A 35 6) + j)) ∧ 0 < verA A b 3 id 35 16 ∧ verA A b 3 id 35 16 ≤ 256 ∧ verA A b 3 id 35 15 < 256 ∧ nxS A = (verA A b 3 id 35 15 + verA A b 3 id 35 16 - 1) % 256 := by
  obtain ⟨e1, e2, e3⟩ := ver_e (b := b) (wh := 3) (id := id) hd
  obtain ⟨i1, i2, i3, i4, i5, i6⟩ := ve1_f (A := ve2 (actA A)) (b := b) (wh := 3) (id := id) rfl e2
  have es : nxS A = slA (ve2 (actA A)) (ve2 (actA A) 35 16) := rfl
  have o47 : ∀ q, ve2 (actA A) 47 q = A 47 q := fun q => by
    unfold ve2
    split
    · rw [koA_o _ _ (by decide) (by decide) (by decide) (by decide), actA_o A q (by decide)]
    · exact actA_o A q (by decide)
  have o6 : ve2 (actA A) 35 6 = A 35 6 := by
    unfold ve2
    split
    · rw [koA_35 _ _ (by decide) (by decide), actA_35 A 6 (by decide) (by decide)]
    · exact actA_35 A 6 (by decide) (by decide)
  have e15 : ve1 (ve2 (actA A)) (slA (ve2 (actA A)) (ve2 (actA A) 35 16)) b 3 id 35 15 = ve2 (actA A) 35 15 := by
    unfold ve1
    rw [if_pos rfl, up2_j (by decide)]
    show (if 35 = 45 then _ else up2 (up2 (up2 (ve2 (actA A)) 42 _ b) 43 _ 3) 44 _ id 35 15) = _
    rw [if_neg (by decide), up2_o (by decide), up2_o (by decide), up2_o (by decide)]
  rw [e1, es]
  generalize slA (ve2 (actA A)) (ve2 (actA A) 35 16) = s at *
  refine ⟨i4.2.1, fun j hj => ?_, by rw [i2]; omega, by rw [i2]; omega, by rw [e15]; exact e3, ?_⟩
  · unfold ve1
    rw [if_pos rfl, up2_o (by decide)]
    show (if 45 = 45 then cpR (ve2 (actA A) 47) (ve2 (actA A) 45) (256 * (b - 34 - ve2 (actA A) 35 6)) (256 * s) (256 * s + j) else _) = _
    rw [if_pos rfl]
    unfold cpR
    rw [if_pos (by omega), o47, o6]
    congr 1
    omega
  · rw [e15, i2, Nat.add_sub_assoc (by omega), Nat.add_sub_cancel, ← es]
    rfl
/-- whose blocks are meant -/
def IT (o : Option Nat) (C A : tS) : Prop := ∀ r, r < A 35 7 → A 48 r ≠ 0 → (A 72 r ≠ 0 ↔ ∀ n, o = some n → C 14 (34 + r) = n)
def WZ (Φ : tPh) (b0 : Nat) (bi sp : Nat → Nat) (w : Nat → Nat × Nat) (D : tD) (J : tJ) (K : Nat) (v : Int32 ⊕ Unit) (τ : tM) (X : (Nat × tS) ⊕ tS) : Prop := match X with
  | .inl p => v = .inl (nI p.1) ∧ ∃ C' D', CM b0 τ C' D' ∧ RO Φ bi sp w C' D' p.2 J ∧ EP D D' 0 0 ∧ dsk p.2 K
  | .inr B => v = .inr () ∧ ∃ C' D', CM b0 τ C' D' ∧ OF Φ bi sp C' D' B J ∧ EP D D' 6 1
theorem WZ_t {v : Int32 ⊕ Unit} {Y : (Nat × tS) ⊕ tS} (k : EP D D' 0 0) (h : WZ Φ b0 bi sp w D' J K v τ Y) : WZ Φ b0 bi sp w D J K v τ Y := by
  cases Y with
  | inl p =>
    obtain ⟨h1, C2, D2, h2, h3, h4, h5⟩ := h
    exact ⟨h1, C2, D2, h2, h3, EP_z k h4, h5⟩
  | inr B =>
    obtain ⟨h1, C2, D2, h2, h3, h4⟩ := h
    exact ⟨h1, C2, D2, h2, h3, EP_z k h4⟩
theorem wd_none {most d : Nat} : ∀ m k, (∀ r, k ≤ r → r < k + m → A 48 r = 0) → wdL most m k d A = .inl (d, A)
  | 0, _, _ => rfl
  | m + 1, k, h => by
    show (if most ≤ d then Sum.inl (d, A) else if A 72 k = 0 ∨ A 48 k = 0 then wdL most m (k + 1) d A else _) = _
    by_cases c : most ≤ d
    · rw [if_pos c]
    · rw [if_neg c, if_pos (Or.inr (h k (by omega) (by omega)))]
      exact wd_none m (k + 1) (fun r a b => h r (by omega) (by omega))
theorem oI_ne {n : Nat} (hn : n < 64) : ¬ nI n = (-1 : Int32) := fun e => by
  have h1 := nI_pos (show n < 2147483648 by omega)
  rw [e] at h1
  exact h1 (by decide)
theorem wd6 (hΦ : goodT Φ) (hok : ∀ w A, Φ w A → okT A) (hu : 3000 ≤ fu) {o : Option Nat} (ho : ∀ n, o = some n → n < 64) {most : Nat} (hm : most < 2147483648) : ∀ m k d f σ C D A, CM b0 σ C D → RO Φ bi sp w C D A J → dsk A (K + m) → IT o C A → k + m = A 35 7 → d ≤ k → m < f →
    wp (FC b0) σ (L_X10_writeDirty_6 b0 fu f (b0 + 0) (oI o) (nI most) (nI d) (nI (34 + k)) σ) (fun v τ => WZ Φ b0 bi sp w D J K v τ (wdL most m k d A)) := by
  intro m
  induction m with
  | zero =>
    intro k d f σ C D A h hR hd hi hk hdk hf
    obtain ⟨f, rfl⟩ : ∃ q, f = q + 1 := ⟨f - 1, by omega⟩
    have L := h.lay
    have z := hR.2.1.zm.1
    unfold L_X10_writeDirty_6 J_X10_writeDirty_125
    rw [ltb_def, ckC_0 L, osm_p (rfC_0_1 L), ckC_10 L, cf_10_7 h.ca, z.1, if_l (by omega) (by omega), if_pos (by omega)]
    exact wp_ret ((FC_good b0).1 _) ⟨rfl, C, D, h, hR, EP_r D, hd⟩
  | succ m ih =>
    intro k d f σ C D A h hR hd hi hk hdk hf
    obtain ⟨f, rfl⟩ : ∃ q, f = q + 1 := ⟨f - 1, by omega⟩
    have L := h.lay
    have zm := hR.2.1.zm
    have z := zm.1
    have hci := hR.2.1.rk.1
    have jo := hR.1.2.1.2.2.1
    unfold JO at jo
    have b13 := (ci_b hci).2.2
    have stop : wdL most (m + 1) k d A = .inl (d, A) → wp (FC b0) σ (J_X10_writeDirty_125 b0 fu (nI d) σ) (fun v τ => WZ Φ b0 bi sp w D J K v τ (wdL most (m + 1) k d A)) := fun e => by
      rw [e]
      unfold J_X10_writeDirty_125
      exact wp_ret ((FC_good b0).1 _) ⟨rfl, C, D, h, hR, EP_r D, dsk_le hd (by omega)⟩
    have lx : wdL most (m + 1) k d A = if most ≤ d then .inl (d, A) else if A 72 k = 0 ∨ A 48 k = 0 then wdL most m (k + 1) d A else (match verX A (34 + A 35 6 + k) 3 (A 36 (6080 + k * 274 + 1)) with | .inl B => wdL most m (k + 1) (d + 1) (up2 B 48 k 0) | .inr B => .inr B) := rfl
    unfold L_X10_writeDirty_6
    rw [ltb_def, ckC_0 L, osm_p (rfC_0_1 L), ckC_10 L, cf_10_7 h.ca, z.1, if_l (by omega) (by omega), if_neg (by omega), if_l hm (by omega)]
    by_cases c1 : most ≤ d
    · rw [if_pos c1]
      refine stop ?_
      rw [lx, if_pos c1]
    rw [if_neg c1, osm_p (rfC_0_1 L), ckC_10 L, cf_10_13 h.ca]
    show wp (FC b0) σ (if nI (C 10 13) ≤ nI 0 then _ else _) _
    rw [if_l (by omega) (by omega)]
    by_cases c2 : C 10 13 ≤ 0
    · rw [if_pos c2]
      refine stop (wd_none (m + 1) k (fun r a b => ?_))
      have e0 : cn (fun c => C 17 c != 0) 0 2034 = 0 := by rw [← hci.2.1.2.2]; omega
      have := cn_0 (p := fun c => C 17 c != 0) 2034 0 e0 (34 + r) (by omega) (by omega)
      have : C 17 (34 + r) = 0 := by simpa using this
      exact (zm.2.2.2.2.2.1 r (by omega)).mp this
    rw [if_neg c2, osm_p (rfC_0_1 L), ckC_10 L, isDirty_c h.ca hci (by omega), cll_some]
    have nxt : A 72 k = 0 ∨ A 48 k = 0 → wp (FC b0) σ (J_X10_writeDirty_119 b0 fu (L_X10_writeDirty_6 b0 fu f) (b0 + 0) (oI o) (nI most) (nI d) (nI (34 + k)) σ) (fun v τ => WZ Φ b0 bi sp w D J K v τ (wdL most (m + 1) k d A)) := fun c => by
      unfold J_X10_writeDirty_119
      rw [ltb_def, ofi, lx, if_neg c1, if_pos c, show 34 + k + 1 = 34 + (k + 1) by omega]
      exact ih (k + 1) d f σ C D A h hR (dsk_le hd (by omega)) hi (by omega) (by omega) (by omega)
    have zd := zm.2.2.2.2.2.1 k (by omega)
    by_cases c3 : A 48 k = 0
    · have e17 : fgC C 17 (34 + k) = 0 := if_neg (fun q => q.2.2 (zd.mpr c3))
      rw [e17]
      show wp (FC b0) σ (if nI 0 = nI 0 then _ else _) _
      rw [if_pos rfl]
      exact nxt (Or.inr c3)
    have e17 : fgC C 17 (34 + k) = 1 := if_pos ⟨by omega, by rw [z.1]; omega, fun q => c3 (zd.mp q)⟩
    rw [e17]
    show wp (FC b0) σ (if nI 1 = nI 0 then _ else _) _
    rw [if_e (by omega) (by omega), if_neg (by omega)]
    have hus := zm.2.2.2.2.2.2.2.2.2 k (by omega) c3
    obtain ⟨z13, z14, z49⟩ := zm.2.2.1 k (by omega) hus
    obtain ⟨g1, g2⟩ := hR.2.1.gh.2.2.2.2 k (by omega) c3
    have it := hi k (by omega) c3
    have kr : k < 2000 := by omega
    -- the block is written
    have wr : A 72 k ≠ 0 → wp (FC b0) σ (J_X10_writeDirty_63 b0 fu (L_X10_writeDirty_6 b0 fu f) (b0 + 0) (oI o) (nI most) (nI d) (nI (34 + k)) σ) (fun v τ => WZ Φ b0 bi sp w D J K v τ (wdL most (m + 1) k d A)) := fun c => by
      have nbE : nbC C (34 + k) = 34 + A 35 6 + k := by
        unfold nbC
        rw [if_pos (by omega), z.2.1]
        omega
      have bb : bi (se A k) < 2147483648 := by
        have := (hR.2.1.bj.1 (se A k)).1
        have := cb_10 h.ca 15
        omega
      rw [lx, if_neg c1, if_neg (fun q => q.elim c c3)]
      unfold J_X10_writeDirty_63
      rw [ckC_0 L, osm_p (rfC_0_0 L), osm_p (rfC_0_1 L), ckC_10 L, numberOf_c h.ca (by omega), cll_some, ckC_0 L, osm_p (rfC_0_1 L), ckC_10 L, birthOf_c h.ca hci (by rw [z.1]; omega), cll_some, ckC_1 L, nbE, z13]
      have pu := put_c (fu := fu) (K := K + m) (b := 34 + A 35 6 + k) (wh := 3) (id := se A k) h hR.1.1 hd hR.2.2.2.2.2.2.2.2 (by omega) (by show bi (se A k) < 2147483648; exact bb) hu
      have tg : tgA bi sp 3 (se A k) = bi (se A k) := rfl
      rw [tg] at pu
      show wp (FC b0) σ _ (fun v τ => WZ Φ b0 bi sp w D J K v τ (match verX A (34 + A 35 6 + k) 3 (se A k) with | .inl B => wdL most m (k + 1) (d + 1) (up2 B 48 k 0) | .inr B => .inr B))
      by_cases e2 : A 35 19 = 1
      · have ex2 : verX A (34 + A 35 6 + k) 3 (se A k) = .inr (powA A) := if_pos e2
        rw [ex2] at pu ⊢
        refine wp_clx (FC_good b0) pu (fun v ρ q => by cases q.1) (fun ρ q => ?_)
        obtain ⟨-, C7, D7, t1, t2, t3, t4, t5⟩ := q
        have of := OF_pow hΦ hok hR.1 hR.2.2.2.2.2.2.2.1 t2 t3 t4 hR.2.2.2.2.2.2.2.2
        generalize powA A = P at of
        exact ⟨rfl, C7, D7, t1, of, t5⟩
      · have ex2 : verX A (34 + A 35 6 + k) 3 (se A k) = .inl (verA A (34 + A 35 6 + k) 3 (se A k)) := if_neg e2
        rw [ex2] at pu ⊢
        refine wp_clx (FC_good b0) pu (fun v ρ q => ?_) (fun ρ q => by cases q.1)
        obtain ⟨-, C7, D7, t1, t2, t3, t4, t5⟩ := q
        have pn : pnd 3 (nxS A) = nxS A := rfl
        rw [pn] at t2
        obtain ⟨v1, v2, v3, v4, v5, v6⟩ := ver3 (b := 34 + A 35 6 + k) (id := se A k) hd
        have c11 : C7 11 = C 11 := t3 11 (by decide) (by decide) (by decide) (by decide) (by decide) (by decide) (by decide)
        have fb := hR.2.1.fb k kr hus g1 g2
        have L7 := t1.lay
        have gv := giveBytes_c (fu := fu) (s := nxS A) (c := 34 + k) t1 t2 v3 v4 v5 v6 (by omega) v1 (fun j hj => by
          rw [v2 j hj, c11, show 34 + A 35 6 + k - 34 - A 35 6 = k by omega]
          exact fb j hj)
        rw [ckC_0 L7, osm_p (rfC_0_0 L7), osm_p (rfC_0_1 L7), ckC_10 L7, osm_p (rfC_10_0 L7), ckC_1 L7, show nI (34 + k) * (32 : Int32) = nI ((34 + k) * 32) from pk_mul (34 + k) 32]
        refine wp_bind (FC_good b0) gv ?_
        rintro _ ρ2 ⟨C8, D8, u1, u2, u3, u4, u5⟩
        have R8 := RO_ver hΦ hok hR hd u2 (cO_t t3 u3) (JP_t t4 u4) (by omega) (fun k' i' _ _ => by have := whB_in (k := k') (i := i') hR.1.2.1.2.2.1; omega) (Or.inr (Or.inr (Or.inr ⟨by omega, Or.inr rfl⟩))) (fun e => by cases e) (fun _ => ⟨hR.2.1.bj.2.2.2 k kr hus, by omega⟩)
        have kv := dk_ver (A := A) (b := 34 + A 35 6 + k) (wh := 3) (id := se A k)
        have ev : ∀ q, q ≤ 14 ∨ 22 ≤ q → verA A (34 + A 35 6 + k) 3 (se A k) 35 q = A 35 q := fun q hq => kv.2 q (by omega) (by omega) (by omega) (by omega) (by omega) (by omega)
        have d8 := dsk_ver (b := 34 + A 35 6 + k) (wh := 3) (id := se A k) hd (by omega) (fun _ => by omega)
        have a48 : verA A (34 + A 35 6 + k) 3 (se A k) 48 = A 48 := kv.1 48 (by decide) (by decide)
        have a72 : verA A (34 + A 35 6 + k) 3 (se A k) 72 = A 72 := kv.1 72 (by decide) (by decide)
        generalize verA A (34 + A 35 6 + k) 3 (se A k) = A1 at *
        have L8 := u1.lay
        rw [ckC_0 L8, osm_p (rfC_0_1 L8), ckC_10 L8]
        refine wp_bind (FC_good b0) (clean_c (fu := fu) u1 R8.2.1.rk.1 (c := 34 + k) (by omega)) ?_
        intro _ ρ3 u6
        have R9 := RO_cle (r := k) hΦ hok R8 (by rw [ev 7 (by omega)]; omega) (by rw [a48]; exact c3)
        obtain ⟨f1, f2, f3⟩ := cle_f (C := C8) (r := k) (by rw [R8.2.1.zm.1.1, ev 7 (by omega)]; omega)
        have c14 : cleC C8 (34 + k) 14 = C 14 := by rw [f1 14 (by decide) (by decide), u3 14 (by decide) (by decide) (by decide) (by decide) (by decide) (by decide) (by decide), t3 14 (by decide) (by decide) (by decide) (by decide) (by decide) (by decide) (by decide)]
        unfold J_X10_writeDirty_119
        rw [ltb_def, ofi, ltb_def, ofi, show 34 + k + 1 = 34 + (k + 1) by omega]
        have fin := ih (k + 1) (d + 1) f ρ3 (cleC C8 (34 + k)) D8 (up2 A1 48 k 0) u6 R9 (dsk_cg d8 (fun q _ => by rw [up2_rown (by decide)]) (up2_rown (by decide)) (up2_rown (by decide))) (fun r hr hd' => by
          rw [up2_o (by decide), ev 7 (by omega)] at hr
          have ne : r ≠ k := fun e => hd' (by rw [e, up2_s])
          rw [up2_j ne, a48] at hd'
          rw [up2_rown (show (72 : Nat) ≠ 48 by decide), a72, c14]
          exact hi r hr hd') (by rw [up2_o (by decide), ev 7 (by omega)]; omega) (by omega) (by omega)
        exact wp_mono fin (fun v ρ4 _ q => WZ_t (EP_z t5 u5) q)
    cases o with
    | none =>
      have e1 : oI none = (-1 : Int32) := rfl
      rw [e1, if_pos rfl]
      exact wr (it.mpr (fun n e => by cases e))
    | some n =>
      have hn := ho n rfl
      have e1 : oI (some n) = nI n := rfl
      have w64 : (w k).1 < 64 := (hR.2.1.ti.1 k kr hus).2.1
      rw [e1, if_neg (oI_ne hn), ckC_0 L, osm_p (rfC_0_1 L), ckC_10 L, ownerOf_c h.ca hci (by rw [z.1]; omega), cll_some, z14, if_e (by omega) (by omega)]
      by_cases c4 : (w k).1 = n
      · rw [if_pos c4]
        exact wr (it.mpr (fun n' e => by cases e; rw [z14]; exact c4))
      · rw [if_neg c4]
        refine nxt (Or.inl (Classical.byContradiction (fun q => c4 ?_)))
        have := it.mp q n rfl
        rw [z14] at this
        exact this
end WDT
