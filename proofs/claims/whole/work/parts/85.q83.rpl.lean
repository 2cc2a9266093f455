/-! ===== PURE: what is replayed is put to its place, in both ===== -/
/-- what follows the puts -/
def rpE (b0 fu : Nat) (x0 : Nat) (x1 x2 : Int32) (σ : tM) : Option ((Int32 ⊕ Unit) × tM) := osm (tA (σ) (x0) 0) (fun a36 => ckO b0 (σ) (a36) 0 (clx (m_X0_flushCache b0 fu (a36) (σ)) (fun v40 ρ41 => ckO b0 (ρ41) (x0) 1 (osm (tA (ρ41) (x0) 0) (fun a45 => ckO b0 (ρ41) (a45) 0 (clx (m_X0_put b0 fu (a45) (0) (x2) (ρ41)) (fun v49 ρ50 => ckO b0 (ρ50) (x0) 1 (osm (tA (ρ50) (x0) 0) (fun a54 => ckO b0 (ρ50) (a54) 0 (clx (m_X0_flushCache b0 fu (a54) (ρ50)) (fun v58 ρ59 => ckO b0 (ρ59) (x0) 1 (cll (m_X1_fold b0 fu (x0) (x2) (ρ59)) (fun v63 ρ64 => ckO b0 (ρ64) (x0) 1 (cll (m_X1_dropAll b0 fu (x0) (ρ64)) (fun v68 ρ69 => ckO b0 (ρ69) (x0) 1 (cll (m_X1_restart b0 fu (x0) (x2) (ρ69)) (fun v73 ρ74 => some (.inl ((x2) - (x1)), ρ74))))))))))))))))))
def RPk (Φ : tPh) (b0 : Nat) (bi sp : Nat → Nat) (C : tS) (D : tD) (J : tJ) (K : Nat) (F : tM → Option ((Int32 ⊕ Unit) × tM)) (Q : Int32 ⊕ Unit → tM → Prop) (X : tS ⊕ tS) : Prop := match X with
  | .inl B => ∀ ρ C' D', CM b0 ρ C' D' → RS Φ bi sp C' D' B J → dsk B K → cO C C' → JP D D' → EP D D' 0 0 → wp (FC b0) ρ (F ρ) Q
  | .inr B => ∀ ρ C' D', CM b0 ρ C' D' → OF Φ bi sp C' D' B J → EP D D' 6 1 → Q (.inr ()) ρ
section RPL
variable {Φ : tPh} {b0 fu : Nat} {σ τ : tM} {bi sp : Nat → Nat} {w : Nat → Nat × Nat} {C C' X : tS} {D D' D'' : tD} {A B : tS} {J J' : tJ} {K n m k r b id wh e o un fr to : Nat}
theorem byX_skip : ∀ m b m' (A : tS), (∀ x, b ≤ x → x < b + m → A 69 x = 0) → byX b (m + m') A = byX (b + m) m' A
  | 0, b, m', A, _ => by rw [Nat.zero_add, Nat.add_zero]
  | m + 1, b, m', A, h => by
    rw [show m + 1 + m' = (m + m') + 1 by omega]
    show (if A 69 b = 0 then byX (b + 1) (m + m') A else bX (verX A b 0 0) (byX (b + 1) (m + m'))) = _
    rw [if_pos (h b (Nat.le_refl _) (by omega)), byX_skip m (b + 1) m' A (fun x x1 x2 => h x (by omega) (by omega)), show b + 1 + m = b + (m + 1) by omega]
theorem nb_nx {c : Nat} : nbA A c < nbA A (c + 1) ∧ (∀ x, nbA A c < x → x < nbA A (c + 1) → 34 ≤ x ∧ x < 34 + A 35 6) := by
  unfold nbA
  by_cases c1 : c < 34
  · rw [if_pos c1]
    by_cases c2 : c + 1 < 34
    · rw [if_pos c2]
      exact ⟨by omega, fun x _ _ => by omega⟩
    · rw [if_neg c2]
      exact ⟨by omega, fun x _ _ => by omega⟩
  · rw [if_neg c1, if_neg (by omega)]
    exact ⟨by omega, fun x _ _ => by omega⟩
theorem RPk_t {F : tM → Option ((Int32 ⊕ Unit) × tM)} {Q : Int32 ⊕ Unit → tM → Prop} {Y : tS ⊕ tS} (c : cO C C') (j : JP D D') (e : EP D D' 0 0) (h : RPk Φ b0 bi sp C D J K F Q Y) : RPk Φ b0 bi sp C' D' J K F Q Y := by
  cases Y with
  | inl B => exact fun ρ C2 D2 q1 q2 q3 q4 q5 q6 => h ρ C2 D2 q1 q2 q3 (cO_t c q4) (JP_t j q5) (EP_z e q6)
  | inr B => exact fun ρ C2 D2 q1 q2 q3 => h ρ C2 D2 q1 q2 (EP_z e q3)
theorem rp30 (hΦ : goodT Φ) (hok : ∀ w A, Φ w A → okT A) (hu : 3000 ≤ fu) {x1 x2 : Int32} {Q : Int32 ⊕ Unit → tM → Prop} : ∀ j c f σ C D A, CM b0 σ C D → RS Φ bi sp C D A J → MK C A → dsk A (K + j) → 1 ≤ c → c + j = 34 + A 35 7 → j < f →
    RPk Φ b0 bi sp C D J K (rpE b0 fu (b0 + 20) x1 x2) Q (byX (nbA A c) (blk A - nbA A c) A) → wp (FC b0) σ (L_X1_replay_30 b0 fu f (b0 + 20) x1 x2 (nI c) σ) Q := by
  intro j
  induction j with
  | zero =>
    intro c f σ C D A h hR hM hd h1 hc hf hQ
    obtain ⟨f, rfl⟩ : ∃ q, f = q + 1 := ⟨f - 1, by omega⟩
    have L := h.lay
    have e7 := hR.1.2.2.2.2.2.2.2.2.1.2.1.1
    have d2 := hd.2.1
    have e : byX (nbA A c) (blk A - nbA A c) A = .inl A := by
      have : blk A - nbA A c = 0 := by
        unfold nbA blk
        rw [if_neg (by omega)]
        omega
      rw [this]
      rfl
    rw [e] at hQ
    unfold L_X1_replay_30
    rw [ltb_def, ckC_20 L, osm_p (rfC_20_1 L), ckC_10 L, cf_10_7 h.ca, e7, if_l (by omega) (by omega), if_pos (by omega)]
    exact hQ σ C D h hR hd (cO_r C) (JP_r D) (EP_r D)
  | succ j ih =>
    intro c f σ C D A h hR hM hd h1 hc hf hQ
    obtain ⟨f, rfl⟩ : ∃ q, f = q + 1 := ⟨f - 1, by omega⟩
    have L := h.lay
    have e7 := hR.1.2.2.2.2.2.2.2.2.1.2.1.1
    have e8 := hR.1.2.2.2.2.2.2.2.2.1.2.1.2
    have d2 := hd.2.1
    have d1 := hd.1
    obtain ⟨x1', x2'⟩ := nb_nx (A := A) (c := c)
    have nlt : nbA A (c + 1) ≤ blk A := by
      unfold nbA blk
      split <;> omega
    have b22 := cb_22 h.ca c
    have mk := hM.1 c h1 (by omega)
    have ss : ∀ B : tS, B 35 6 = A 35 6 → (∀ x, nbA A c < x → x < nbA A (c + 1) → B 69 x = 0) → byX (nbA A c + 1) (blk A - nbA A c - 1) B = byX (nbA A (c + 1)) (blk A - nbA A (c + 1)) B := fun B _ hz => by
      have := byX_skip (nbA A (c + 1) - (nbA A c + 1)) (nbA A c + 1) (blk A - nbA A (c + 1)) B (fun x a b => hz x (by omega) (by omega))
      rw [show nbA A (c + 1) - (nbA A c + 1) + (blk A - nbA A (c + 1)) = blk A - nbA A c - 1 by omega, show nbA A c + 1 + (nbA A (c + 1) - (nbA A c + 1)) = nbA A (c + 1) by omega] at this
      exact this
    have bx : byX (nbA A c) (blk A - nbA A c) A = if A 69 (nbA A c) = 0 then byX (nbA A c + 1) (blk A - nbA A c - 1) A else bX (verX A (nbA A c) 0 0) (byX (nbA A c + 1) (blk A - nbA A c - 1)) := by
      rw [show blk A - nbA A c = (blk A - nbA A c - 1) + 1 by omega]
      rfl
    rw [bx] at hQ
    unfold L_X1_replay_30 J_X1_replay_66
    rw [ltb_def, ckC_20 L, osm_p (rfC_20_1 L), ckC_10 L, cf_10_7 h.ca, e7, if_l (by omega) (by omega), if_neg (by omega), osm_p (rfC_20_4 L), ckC_22 L, ckI_n (by omega) (by omega), nI_cl (by omega), cd_22 h.ca]
    show wp (FC b0) σ (if nI (C 22 c) = nI 0 then _ else _) _
    rw [if_e (by omega) (by omega)]
    by_cases c0 : C 22 c = 0
    · rw [if_pos c0, ltb_def, ofi]
      rw [if_pos (mk.mp c0), ss A rfl (fun x a b => hM.2 x (Or.inr (Or.inl (x2' x a b))) (by have := x2' x a b; omega))] at hQ
      exact ih (c + 1) f σ C D A h hR hM (dsk_le hd (by omega)) (by omega) (by omega) (by omega) hQ
    · rw [if_neg (fun q => c0 (mk.mpr q))] at hQ
      have nbE : nbC C c = nbA A c := by
        unfold nbC nbA
        rw [e8]
        by_cases d : c < 34
        · rw [if_neg (by omega), if_pos d]
        · rw [if_pos (by omega), if_neg d]
      have bl : nbA A c < 34 + A 35 6 + A 35 7 := by
        unfold blk at nlt
        omega
      obtain ⟨n0, nl, ng⟩ := nb_out (A := A) (c := c) h1
      rw [if_neg c0, osm_p (rfC_20_0 L), osm_p (rfC_20_1 L), ckC_10 L, numberOf_c h.ca (by omega), cll_some, ckC_1 L, nbE]
      have pu := put_c (fu := fu) (K := K + j) (b := nbA A c) (wh := 0) (id := 0) h hR.1.1 hd hR.2.2.2 bl (by show (0 : Nat) < 2147483648; omega) hu
      have tg : nI (tgA bi sp 0 0) = 0 := rfl
      rw [tg] at pu
      by_cases e2 : A 35 19 = 1
      · have ex2 : verX A (nbA A c) 0 0 = .inr (powA A) := if_pos e2
        rw [ex2] at pu hQ
        refine wp_clx (FC_good b0) pu (fun v ρ q => by cases q.1) (fun ρ q => ?_)
        obtain ⟨-, C7, D7, t1, t2, t3, t4, t5⟩ := q
        have of := RS_pow hΦ hok hR t2 t3 t4
        generalize powA A = P at of hQ
        exact hQ ρ C7 D7 t1 of t5
      · have ex2 : verX A (nbA A c) 0 0 = .inl (verA A (nbA A c) 0 0) := if_neg e2
        rw [ex2] at pu hQ
        refine wp_clx (FC_good b0) pu (fun v ρ q => ?_) (fun ρ q => by cases q.1)
        obtain ⟨-, C7, D7, t1, t2, t3, t4, t5⟩ := q
        have t2 : DR bi sp C7 D7 (verA A (nbA A c) 0 0) := t2
        have R7 := RS_ver hΦ hok hR hd t2 t3 t4 nl (fun e => absurd e n0) ng (fun e => by cases e) (fun e => by cases e)
        have kv := dk_ver (A := A) (b := nbA A c) (wh := 0) (id := 0)
        have ev : ∀ q, q ≤ 14 ∨ 22 ≤ q → verA A (nbA A c) 0 0 35 q = A 35 q := fun q hq => kv.2 q (by omega) (by omega) (by omega) (by omega) (by omega) (by omega)
        have d8 := dsk_ver (K := K + j) (b := nbA A c) (wh := 0) (id := 0) hd bl (fun e => by cases e)
        have a69 : verA A (nbA A c) 0 0 69 = A 69 := kv.1 69 (by decide) (by decide)
        have hQ : RPk Φ b0 bi sp C D J K (rpE b0 fu (b0 + 20) x1 x2) Q (byX (nbA A c + 1) (blk A - nbA A c - 1) (verA A (nbA A c) 0 0)) := hQ
        generalize verA A (nbA A c) 0 0 = B at *
        rw [ss B (ev 6 (by omega)) (fun x a b => by rw [a69]; exact hM.2 x (Or.inr (Or.inl (x2' x a b))) (by have := x2' x a b; omega))] at hQ
        have nbB : ∀ x, nbA B x = nbA A x := fun x => by unfold nbA; rw [ev 6 (by omega)]
        have blB : blk B = blk A := by unfold blk; rw [ev 6 (by omega), ev 7 (by omega)]
        have MB : MK C7 B := by
          unfold MK
          rw [ev 6 (by omega), ev 7 (by omega), a69, t3 22 (by decide) (by decide) (by decide) (by decide) (by decide) (by decide) (by decide)]
          exact ⟨fun x a b => by rw [nbB]; exact hM.1 x a b, hM.2⟩
        rw [ltb_def, ofi]
        rw [← nbB, ← blB] at hQ
        exact ih (c + 1) f ρ C7 D7 B t1 R7 MB d8 (by omega) (by rw [ev 7 (by omega)]; omega) (by omega) (RPk_t t3 t4 t5 hQ)
end RPL
