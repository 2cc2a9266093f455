/-! ===== PURE: the reference forgets, whole ===== -/
/-- how many changes were made for good by the latest transaction -/
def frA_ (A : tS) (J : tJ) : Nat := if A 35 35 < A 35 28 then J.1 40 (A 35 28 - A 35 35 - 1) else 0
/-- the first place of the lists that stays -/
def fiJ (J : tJ) (g : Nat) : Nat := if g < J.2.1 then J.1 41 g else J.2.2.1
def fg1 (J : tJ) (fr : Nat) : tJ := (chB fr 0 J.2.1 J.1, J.2.1, J.2.2.1, fun p s => ∃ q, q = p + fr ∧ J.2.2.2 q s)
def fg2 (J : tJ) (g : Nat) : tJ := (mvL g (fiJ J g) g (J.2.1 - g) (upR J.1 44 (fun i => J.1 44 (i + fiJ J g))), J.2.1 - g, J.2.2.1 - fiJ J g, J.2.2.2)
def fgA2 (A : tS) (J : tJ) (g : Nat) : tS := up2 (up2 A 35 46 ((J.1 38 (g - 1) + J.1 39 (g - 1)) % A 35 6)) 35 35 (A 35 32)
/-- what stays of the records when all is forgotten that no recovery can want -/
def fgJ (A : tS) (J : tJ) : tJ := if A 35 35 < A 35 32 then fg2 (fg1 J (frA_ A J)) (A 35 32 - A 35 35) else fg1 J (frA_ A J)
def fgA (A : tS) (J : tJ) : tS := if A 35 35 < A 35 32 then fgA2 A (fg1 J (frA_ A J)) (A 35 32 - A 35 35) else A
theorem und_mv {a w : Nat → Nat} {fr : Nat} : ∀ n m p, und (fun i => a (i + fr)) (fun i => w (i + fr)) p n m = und a w (p + fr) (n + fr) m
  | 0, m, p => by
    cases fr with
    | zero => rfl
    | succ fr => show m = und a w (p + (fr + 1)) (0 + (fr + 1)) m; rw [Nat.zero_add]; show m = if p + (fr + 1) ≤ fr then _ else m; rw [if_neg (by omega)]
  | n + 1, m, p => by
    show (if p ≤ n then und (fun i => a (i + fr)) (fun i => w (i + fr)) p n (upN m (a (n + fr)) (w (n + fr))) else m) = _
    rw [show n + 1 + fr = (n + fr) + 1 by omega]
    show _ = (if p + fr ≤ n + fr then und a w (p + fr) (n + fr) (upN m (a (n + fr)) (w (n + fr))) else m)
    by_cases h : p ≤ n
    · rw [if_pos h, if_pos (by omega), und_mv n _ p]
    · rw [if_neg h, if_neg (by omega)]
section FI
variable {b0 fu : Nat} {σ τ : tM} {A B U : tS} {c : Nat → Nat} {N K un nl ns : Nat} {J : tJ}
theorem forget118 (h : RM b0 J σ A N) (hl : 1 ≤ A 35 6) (h1 : A 35 35 ≤ A 35 32) (h2 : A 35 32 - A 35 35 ≤ J.2.1) (h3 : J.2.1 < 100000) (h4 : ∀ i, A 35 32 - A 35 35 ≤ i → i < J.2.1 → fiJ J (A 35 32 - A 35 35) ≤ J.1 41 i) (h5 : fiJ J (A 35 32 - A 35 35) ≤ J.2.2.1) (h6 : A 35 35 < A 35 32 → J.1 38 (A 35 32 - A 35 35 - 1) + J.1 39 (A 35 32 - A 35 35 - 1) < 1000000) (hx : A 35 32 < 1000000) (hu : 200000 ≤ fu) : wp (FR b0) σ (J_X12_forget_118 b0 fu (b0 + 35) σ) (fun _ τ => RM b0 (if A 35 35 < A 35 32 then fg2 J (A 35 32 - A 35 35) else J) τ (if A 35 35 < A 35 32 then fgA2 A J (A 35 32 - A 35 35) else A) N) := by
  obtain ⟨hT, U, un, hR, hN, hm⟩ := RM_RL.mp h
  have L := h.ra.lay
  have b6 := bd_35 h.ra 6
  unfold J_X12_forget_118
  rw [ckR_35 L, rf_32 h.ra, rf_35 h.ra, ltb_def, nI_sb h1]
  generalize hg : A 35 32 - A 35 35 = g at h2 h4 h5 h6 ⊢
  show wp (FR b0) σ (if nI 0 < nI g then _ else _) _
  rw [if_t (by omega) (by omega)]
  by_cases e : 0 < g
  · have e0 : A 35 35 < A 35 32 := by omega
    have h6' := h6 e0
    have c37 : ∀ f, 37 ≤ f → f ≤ 43 → cntD un J.2.1 J.2.2.1 f = J.2.1 := fun f h1 h2 => by unfold cntD; rw [if_neg (by omega), if_pos (by omega)]
    obtain ⟨a8, n8, q1, q2, q3, q4, q5, q6, q7, q8⟩ := RL_get (f := 38) (i := g - 1) hR (by omega) (by omega) (by rw [c37 38 (by omega) (by omega)]; omega)
    obtain ⟨a9, n9, r1, r2, r3, r4, r5, r6, r7, r8⟩ := RL_get (f := 39) (i := g - 1) hR (by omega) (by omega) (by rw [c37 39 (by omega) (by omega)]; omega)
    rw [if_pos e, if_pos e0, if_pos e0, show nI g - 1 = nI (g - 1) from nI_sb (b := 1) (by omega), osm_p q1, ckR_p q2 q3, ckI_n q4 q5, osm_p r1, ckR_p r2 r3, ckI_n r4 r5, rf_6 h.ra, nI_cl (by omega), q7, r7, nI_add]
    have nz : ¬ nI (A 35 6) = 0 := nI_ne0 (by omega) b6
    rw [ckD_p nz, nI_dv (by omega) (by omega) b6, pk_mul, nI_md (by omega) (by omega) b6, ltb_def]
    have hE : RL b0 (sI σ (b0 + 35) 46 (nI ((J.1 38 (g - 1) + J.1 39 (g - 1)) % A 35 6))) (up2 A 35 46 ((J.1 38 (g - 1) + J.1 39 (g - 1)) % A 35 6)) J.1 U (cntD un J.2.1 J.2.2.1) un J.2.1 J.2.2.1 := RL_fix hR rfl rfl (by have := Nat.mod_lt (J.1 38 (g - 1) + J.1 39 (g - 1)) (show 0 < A 35 6 by omega); show _ < 2147483648; omega)
    generalize hσ1 : sI σ (b0 + 35) 46 (nI ((J.1 38 (g - 1) + J.1 39 (g - 1)) % A 35 6)) = σ1 at hE ⊢
    have fE : FR b0 σ σ1 := by rw [← hσ1]; exact FR_sI (refO_f 35 (by omega) (by omega))
    refine wp_from (FR_good b0) fE ?_
    have L1 := hE.1.lay
    generalize hA1 : up2 A 35 46 ((J.1 38 (g - 1) + J.1 39 (g - 1)) % A 35 6) = A1 at hE
    have e32 : A1 35 32 = A 35 32 := by rw [← hA1]; rfl
    have f180 : wp (FR b0) σ1 (J_X12_forget_180 b0 fu (b0 + 35) (nI g) (nI (fiJ J g)) σ1) (fun _ τ => RM b0 (fg2 J g) τ (fgA2 A J g) N) := by
      unfold J_X12_forget_180
      obtain ⟨a, n, t1, t2, t3, t4, t5, t6, t7, t8⟩ := RL_mv (f := 44) (s := fiJ J g) hE rfl h5
      have c44 : cntD un J.2.1 J.2.2.1 44 = J.2.2.1 := rfl
      rw [c44] at t4 t7 t8
      have nlb := (h.nr).2.2.2
      rw [ckR_35 L1, osm_p t1, osm_p t1, ckR_p t2 t3, ckR_p t2 t3, (RL_sc hE).2.2, nI_sb h5]
      have ckc : ∀ (k : Option (Unit × tM)), ckC (nI (fiJ J g)) 0 (nI (J.2.2.1 - fiJ J g)) n n k = k := fun k => by
        unfold ckC
        rw [nI_cl (by omega), nI_cl (by omega), show (0 : Int32).toNatClampNeg = 0 from rfl, if_pos ⟨⟨nI_pos (by omega), by decide, nI_pos (by omega)⟩, by omega, by omega⟩]
      rw [ckc, ltb_def, nI_cl (by omega), nI_cl (by omega), show (0 : Int32).toNatClampNeg = 0 from rfl]
      refine wp_from (FR_good b0) t7 ?_
      rw [(RL_sc t8).2.2, nI_sb h5]
      have t9 := RL_nl t8 (J.2.2.1 - fiJ J g)
      refine wp_from (FR_good b0) (FR_sI (refO_f 35 (by omega) (by omega)) : FR b0 _ (sI _ (b0 + 35) 45 (nI (J.2.2.1 - fiJ J g)))) ?_
      rw [if_neg (show ¬ 44 < 4 by decide), if_neg (show ¬ 44 < 4 by decide)] at t9
      have key := forget213 (fu := fu) (g := g) (fi := fiJ J g) e (by omega) (J.2.1 - g) g fu _ _ t9 (by omega) (Nat.le_refl _) (fun q h1 h2 => by rw [upN_n (by omega), c37 q h1 h2]) (fun i h1 h2 => by rw [upR_o (by decide)]; exact h4 i h1 h2) (by omega) h3 (by rw [e32]; omega)
      refine mwp key fun _ τ hq => ?_
      have eA : up2 A1 35 35 (A1 35 32) = fgA2 A J g := by unfold fgA2; rw [e32, ← hA1]
      rw [eA] at hq
      refine RM_RL.mpr ⟨?_, U, un, ?_, ?_, ?_⟩
      · exact okT_oth (okT_oth hT (by decide)) (by decide)
      · refine RL_le hq fun f hf => ?_
        have cD : cntD un (fg2 J g).2.1 (fg2 J g).2.2.1 f = cntD un (J.2.1 - g) (J.2.2.1 - fiJ J g) f := rfl
        rw [cD]
        by_cases q : f = 44
        · subst q; rw [upN_s]; exact Nat.le_refl _
        · rw [upN_n q]
          unfold cntD
          have := isD_of hf
          split
          · exact Nat.le_refl _
          · split
            · omega
            · omega
      · have : usd (fgA2 A J g) = usd A := by unfold fgA2; rw [usd_obj (by decide), usd_obj (by decide)]
        rw [this]; exact hN
      · exact hm
    have n36 : tI σ1 (b0 + 35) 36 = nI J.2.1 := (RL_sc hE).2.1
    rw [n36, if_l (by omega) (by omega)]
    by_cases w : J.2.1 ≤ g
    · rw [if_pos w, (RL_sc hE).2.2]
      have : fiJ J g = J.2.2.1 := if_neg (by omega)
      rw [this] at f180
      exact f180
    · rw [if_neg w]
      unfold J_X12_forget_167
      obtain ⟨a, n, t1, t2, t3, t4, t5, t6, t7, t8⟩ := RL_get (f := 41) (i := g) hE (by omega) (by omega) (by rw [c37 41 (by omega) (by omega)]; omega)
      rw [ckR_35 L1, osm_p t1, ckR_p t2 t3, ckI_n t4 t5, nI_cl (by omega), t7]
      have : fiJ J g = J.1 41 g := if_pos (by omega)
      rw [this] at f180
      exact f180
  · have e0 : ¬ A 35 35 < A 35 32 := by omega
    rw [if_neg e, if_neg e0, if_neg e0]
    exact wp_ret ((FR_good b0).1 _) h
end FI
