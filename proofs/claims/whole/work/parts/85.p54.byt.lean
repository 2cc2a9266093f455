/-! ===== PURE: the reference's bytes ===== -/
def enL (n : Nat) : Nat → Nat → tS → tS
  | _, 0, A => A
  | i, m + 1, A => enL n (i + 1) m (ensA A n i)
def enC (n : Nat) : Nat → Nat → tS → Nat
  | _, 0, _ => 0
  | i, m + 1, A => ensC A n i + enC n (i + 1) m (ensA A n i)
/-- what ensure asks for -/
def enP (A : tS) (n i : Nat) : Prop := okS A ∧ A 35 34 + 3 < 1000000 ∧
  (hasA A n i = 0 → 8 ≤ i → i < 40 → nd A n 93 = 0 → 0 < fre (up2 A 50 n 1)) ∧ (hasA A n i = 0 → 40 ≤ i → nd (ens1 (up2 A 50 n 1) n i) n 94 = 0 → 0 < fre (ens1 (up2 A 50 n 1) n i)) ∧ (hasA A n i = 0 → ensOk (ens2 (ens1 (up2 A 50 n 1) n i) n i) n i)
def enOk (n : Nat) : Nat → Nat → tS → Prop
  | _, 0, _ => True
  | i, m + 1, A => enP A n i ∧ enOk n (i + 1) m (ensA A n i)
def by1 (n off len : Nat) (A : tS) : tS := if off + len ≤ nd A n 1 then A else szA A n (off + len)
def by2 (n off len : Nat) (A : tS) : tS := enL n (off / 256) ((off + len - 1) / 256 + 1 - off / 256) (by1 n off len A)
def byG (n off len : Nat) (p3 : Int32) (A : tS) : Int × tS :=
  if nee A n (off / 256) ((off + len - 1) / 256) ≤ fre A then ((len : Int), wbA n off (vz p3 (by2 n off len A)) 0 len (by2 n off len A)) else (-6, A)
def byZ (n off len : Nat) (p3 : Int32) (A : tS) : Int × tS := if 272384 < off + len then (-7, A) else if len = 0 then (0, A) else byG n off len p3 A
def byOk (n off len : Nat) (A : tS) : Prop := A 35 7 ≤ 2000 ∧ (nee A n (off / 256) ((off + len - 1) / 256) ≤ fre A →
  enOk n (off / 256) ((off + len - 1) / 256 + 1 - off / 256) (by1 n off len A) ∧ enC n (off / 256) ((off + len - 1) / 256 + 1 - off / 256) (by1 n off len A) ≤ 400 ∧ ∀ k, k < len → hasA (by2 n off len A) n ((off + k) / 256) ≠ 0)
section BW
variable {b0 fu : Nat} {σ τ : tM} {A B U : tS} {N N' K K' : Nat} {J : tJ}
theorem by93 {n off len last : Nat} {p3 : Int32} (hn : n < 64) (hl : off + len ≤ 272384) (hL : last < 1064) (hp : p3 = -1 ∧ len ≤ 4000 ∨ ∃ v, v < 256 ∧ p3 = nI v) (hu : 1200000 ≤ fu) : ∀ m i f (σ : tM) (A : tS) N, RM b0 J σ A N → i + m = last + 1 → m < f → enOk n i m A → N + enC n i m A + 20 < 65536 → (∀ k, k < len → hasA (enL n i m A) n ((off + k) / 256) ≠ 0) →
    wp (FR b0) σ (L_X12_bytes_93 b0 fu f (b0 + 35) (nI off) (nI len) p3 (nI n) (nI last) (nI i) σ) (fun v τ => v = nI len ∧ RM b0 J τ (wbA n off (vz p3 (enL n i m A)) 0 len (enL n i m A)) (N + enC n i m A)) := by
  intro m
  induction m with
  | zero =>
    intro i f σ A N h hi hf ho hN hh
    obtain ⟨f, rfl⟩ : ∃ q, f = q + 1 := ⟨f - 1, by omega⟩
    unfold L_X12_bytes_93
    rw [ltb_def, if_t (by omega) (by omega), if_pos (by omega)]
    exact wb117 (fu := fu) hn hl hp len 0 fu σ A h (by omega) (by omega) hh (fun i _ => bd_70 h.ra i)
  | succ m ih =>
    intro i f σ A N h hi hf ho hN hh
    obtain ⟨f, rfl⟩ : ∃ q, f = q + 1 := ⟨f - 1, by omega⟩
    obtain ⟨⟨o1, o2, o3, o4, o5⟩, o6⟩ := ho
    have eC : enC n i (m + 1) A = ensC A n i + enC n (i + 1) m (ensA A n i) := rfl
    rw [eC] at hN ⊢
    unfold L_X12_bytes_93
    rw [ltb_def, if_t (by omega) (by omega), if_neg (by omega), ckR_35 h.ra.lay]
    refine wp_bind (FR_good b0) (ensure_c (fu := fu) h (by omega) o1 o2 (by omega) hn (by omega) o3 o4 o5) ?_
    intro _ ρ h2
    rw [ltb_def, ofi]
    obtain ⟨v, τ, x1, x2, x3, x4⟩ := ih (i + 1) f ρ _ _ h2 (by omega) (by omega) o6 (by omega) hh
    exact ⟨v, τ, x1, x2, x3, RM_le x4 (by omega)⟩
theorem by47 {n off len : Nat} {p3 : Int32} (h : RM b0 J σ A N) (hN : N + 500 < 65536) (hn : n < 64) (h1 : 1 ≤ len) (hl : off + len ≤ 272384) (hp : p3 = -1 ∧ len ≤ 4000 ∨ ∃ v, v < 256 ∧ p3 = nI v) (ho : byOk n off len A) (hu : 1200000 ≤ fu) :
    wp (FR b0) σ (J_X12_bytes_47 b0 fu (b0 + 35) (nI off) (nI len) p3 (nI n) (nI (off / 256)) (nI ((off + len - 1) / 256)) σ) (fun v τ => v = iz (byG n off len p3 A).1 ∧ RM b0 J τ (byG n off len p3 A).2 (N + 401)) := by
  have L := h.ra.lay
  obtain ⟨o1, o2⟩ := ho
  have fe := freeBlocks_eq (fu := fu) h.ra o1 (by omega)
  have fl : fre A ≤ A 35 7 := cn_le _ _ _
  have ne := needs_eq (fu := fu) h.ra h.ok (n := n) (fr := off / 256) (to := (off + len - 1) / 256) hn (by omega) (by omega) (by omega)
  have nb : nee A n (off / 256) ((off + len - 1) / 256) < 2147483648 := by
    have := ndL_le A n ((off + len - 1) / 256 + 1 - off / 256) (off / 256) 0 (nd A n 93 != 0) (nd A n 94 != 0)
    unfold nee
    omega
  unfold J_X12_bytes_47 J_X12_bytes_89 byG
  rw [ckR_35 L, ne, cll_some, ckR_35 L, fe, cll_some]
  show wp (FR b0) σ (if nI (nee A n (off / 256) ((off + len - 1) / 256)) ≤ nI (fre A) then _ else _) _
  rw [if_l nb (by omega)]
  by_cases c : nee A n (off / 256) ((off + len - 1) / 256) ≤ fre A
  · obtain ⟨o3, o4, o5⟩ := o2 c
    rw [if_pos c, if_pos c, ckR_35 L]
    show wp (FR b0) σ (cll (m_X12_node b0 fu (b0 + 35) (nI n) (nI 1) σ) _) _
    rw [node_nd h.ra hn (by omega), cll_some, nI_add, if_l (by omega) (nd_bd h.ra _ _)]
    unfold by2 at o5 ⊢
    have fin : ∀ ρ N1, N1 ≤ N + 1 → RM b0 J ρ (by1 n off len A) N1 → wp (FR b0) ρ (L_X12_bytes_93 b0 fu fu (b0 + 35) (nI off) (nI len) p3 (nI n) (nI ((off + len - 1) / 256)) (nI (off / 256)) ρ) (fun v τ => v = iz ((len : Int), wbA n off (vz p3 (enL n (off / 256) ((off + len - 1) / 256 + 1 - off / 256) (by1 n off len A))) 0 len (enL n (off / 256) ((off + len - 1) / 256 + 1 - off / 256) (by1 n off len A))).1 ∧ RM b0 J τ ((len : Int), wbA n off (vz p3 (enL n (off / 256) ((off + len - 1) / 256 + 1 - off / 256) (by1 n off len A))) 0 len (enL n (off / 256) ((off + len - 1) / 256 + 1 - off / 256) (by1 n off len A))).2 (N + 401)) := by
      intro ρ N1 hN1 h3
      obtain ⟨v, τ, x1, x2, x3, x4⟩ := by93 (fu := fu) (last := (off + len - 1) / 256) hn hl (by omega) hp hu ((off + len - 1) / 256 + 1 - off / 256) (off / 256) fu ρ _ N1 h3 (by omega) (by omega) o3 (by omega) o5
      exact ⟨v, τ, x1, x2, by rw [x3]; exact (iz_n len).symm, RM_le x4 (by omega)⟩
    by_cases c2 : off + len ≤ nd A n 1
    · rw [if_pos c2]
      exact fin σ N (by omega) (by have e : by1 n off len A = A := if_pos c2; rw [e]; exact h)
    · rw [if_neg c2, ckR_35 L]
      refine wp_bind (FR_good b0) (setSize_wp (fu := fu) h (by omega) (by omega) hn (by omega) (fun q => absurd q (by omega))) ?_
      intro _ ρ h2
      exact fin ρ (N + 1) (by omega) (by have e : by1 n off len A = szA A n (off + len) := if_neg c2; rw [e]; exact h2)
  · rw [if_neg c, if_neg c]
    exact wp_ret ((FR_good b0).1 _) ⟨rfl, RM_le h (by omega)⟩
theorem lg_le (x y : Int64) : (lg_cmp x y ≤ 0) ↔ x ≤ y := by
  unfold lg_cmp
  simp only [gt_iff_lt, Int64.lt_iff_toInt_lt, Int64.le_iff_toInt_le, ← Int64.toInt_inj]
  by_cases c : y.toInt < x.toInt
  · rw [if_pos c]
    exact ⟨fun q => absurd q (by decide), fun q => by omega⟩
  · rw [if_neg c]
    by_cases c2 : x.toInt = y.toInt
    · rw [if_pos c2]
      exact ⟨fun _ => by omega, fun _ => by decide⟩
    · rw [if_neg c2]
      exact ⟨fun _ => by omega, fun _ => by decide⟩
theorem sum_cmp {a b : Nat} (ha : a < 2147483648) (hb : b < 2147483648) : (lg_cmp ((nI a).toInt64 + (nI b).toInt64) 272384 ≤ 0) ↔ a + b ≤ 272384 := by
  rw [lg_le, Int64.le_iff_toInt_le, Int64.toInt_add, Int32.toInt_toInt64, Int32.toInt_toInt64, nI_toInt ha, nI_toInt hb]
  have e : (272384 : Int64).toInt = 272384 := by decide
  rw [e, Int.bmod_eq_of_le (by omega) (by omega)]
  omega
theorem bytes_wp {y n off len : Nat} {p3 : Int32} (h : RM b0 J σ A N) (hN : N + 500 < 65536) (hy : y < 16) (h1 : A 71 y ≠ 0) (h2 : A 71 y - 1 = n) (hn : n < 64) (ha : off < 2147483648) (hb : len < 2147483648) (hp : p3 = -1 ∧ len ≤ 4000 ∨ ∃ v, v < 256 ∧ p3 = nI v) (ho : off + len ≤ 272384 → 1 ≤ len → byOk n off len A) (hu : 1200000 ≤ fu) :
    wp (FR b0) σ (m_X12_bytes b0 fu (b0 + 35) (nI y) (nI off) (nI len) p3 σ) (fun v τ => v = iz (byZ n off len p3 A).1 ∧ RM b0 J τ (byZ n off len p3 A).2 (N + 401)) := by
  have L := h.ra.lay
  refine wp_grw (FR_good b0) ?_
  unfold byZ
  by_cases c : 272384 < off + len
  · rw [if_neg (fun q => by have := (sum_cmp ha hb).mp q; omega), if_pos c]
    exact wp_ret ((FR_good b0).1 _) ⟨rfl, RM_le h (by omega)⟩
  · rw [if_pos ((sum_cmp ha hb).mpr (by omega)), if_neg c]
    show wp (FR b0) σ (if nI len = nI 0 then _ else _) _
    rw [if_e hb (by omega)]
    by_cases c2 : len = 0
    · rw [if_pos c2, if_pos c2]
      exact wp_ret ((FR_good b0).1 _) ⟨rfl, RM_le h (by omega)⟩
    · rw [if_neg c2, if_neg c2, ckR_35 L, osm_p (rfR_35_58 L), ckR_71 L, ckI_n hy (by omega), nI_cl (by omega), hd_rd h.ra h1 h2, ltb_def, ltb_def, ltb_def, nI_add]
      have e1 : nI off / (256 : Int32) = nI (off / 256) := nI_dv (d := 256) (by omega) (by omega) (by omega)
      have e2 : nI (off + len) - (1 : Int32) = nI (off + len - 1) := nI_sb (b := 1) (by omega)
      have e3 : nI (off + len - 1) / (256 : Int32) = nI ((off + len - 1) / 256) := nI_dv (d := 256) (by omega) (by omega) (by omega)
      rw [e1, e2, e3]
      exact by47 h hN hn (by omega) (by omega) hp (ho (by omega) (by omega)) hu
end BW
