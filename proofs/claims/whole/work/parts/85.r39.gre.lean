/-! ===== PURE: how much a call touches: whole steps ===== -/
/-- at most these are touched and revoked besides -/
def tB (L R : List Nat) (A B : tS) : Prop := (∀ b, B 51 b ≠ 0 → A 51 b ≠ 0 ∨ b ∈ L) ∧ ∀ b, B 52 b ≠ 0 → A 52 b ≠ 0 ∨ b ∈ R
/-- all tables of a node -/
def tbl : List Nat := 2000 :: 2001 :: (List.range 32).map (fun k => 2100 + k)
def bks (A : tS) (n : Nat) (S : List Nat) : List Nat := S.map (fun s => 34 + A 35 6 + (slo A n s - 1))
section GRE
variable {bi : Nat → Nat} {w : Nat → Nat × Nat} {C X A B E : tS} {t n m k d r s i lo hi lim sz l a v x : Nat} {me : Bool} {L L' R R' : List Nat}
theorem tB_t (h : tB L R A B) (g : tB L' R' B E) : tB (L ++ L') (R ++ R') A E := by
  refine ⟨fun b hb => ?_, fun b hb => ?_⟩
  · rcases g.1 b hb with y | y
    · rcases h.1 b y with z | z
      · exact Or.inl z
      · exact Or.inr (List.mem_append_left _ z)
    · exact Or.inr (List.mem_append_right _ y)
  · rcases g.2 b hb with y | y
    · rcases h.2 b y with z | z
      · exact Or.inl z
      · exact Or.inr (List.mem_append_left _ z)
    · exact Or.inr (List.mem_append_right _ y)
theorem tB_e (h51 : B 51 = A 51) (h52 : B 52 = A 52) : tB [] [] A B := ⟨fun b h => Or.inl (by rw [← h51]; exact h), fun b h => Or.inl (by rw [← h52]; exact h)⟩
theorem tB_N : tB [2 + n / 2] [] A (setN A n x v) := by
  refine ⟨fun b hb => ?_, fun b hb => Or.inl ?_⟩
  · unfold setN at hb
    rw [up2_if] at hb
    by_cases c : 51 = 51 ∧ b = 2 + n / 2
    · exact Or.inr (by rw [c.2]; exact List.mem_singleton.mpr rfl)
    · rw [if_neg c, up2_o (by decide)] at hb
      exact Or.inl hb
  · unfold setN at hb
    rw [up2_o (by decide), up2_o (by decide)] at hb
    exact hb
theorem tB_pE : tB [34 + A 35 6 + (hasA A d (k / 8) - 1)] [] A (putE A d k v) := by
  refine ⟨fun b hb => ?_, fun b hb => Or.inl ?_⟩
  · unfold putE at hb
    rw [up2_if] at hb
    by_cases c : 51 = 51 ∧ b = 34 + A 35 6 + (hasA A d (k / 8) - 1)
    · exact Or.inr (by rw [c.2]; exact List.mem_singleton.mpr rfl)
    · rw [if_neg c, up2_o (by decide)] at hb
      exact Or.inl hb
  · unfold putE at hb
    rw [up2_o (by decide), up2_o (by decide)] at hb
    exact hb
theorem tB_gs (h : tB L R A B) (hl : L.length + R.length ≤ 240) : gsA B ≤ gsA A + (L.length + 2) := by
  obtain ⟨h1, h2⟩ := gs_list L R h.1 h.2
  exact gs_le h1 h2 hl
theorem tB_w (h : tB L R A B) (h1 : ∀ b, b ∈ L → b ∈ L') (h2 : ∀ b, b ∈ R → b ∈ R') : tB L' R' A B := ⟨fun b hb => (h.1 b hb).elim Or.inl (fun y => Or.inr (h1 b y)), fun b hb => (h.2 b hb).elim Or.inl (fun y => Or.inr (h2 b y))⟩
theorem vs_tbl (h : vs s) (h2 : 2000 ≤ s) : s ∈ tbl := by
  unfold vs at h
  unfold tbl
  by_cases c : s = 2000
  · rw [c]
    exact List.mem_cons_self
  by_cases c2 : s = 2001
  · rw [c2]
    exact List.mem_cons_of_mem _ List.mem_cons_self
  refine List.mem_cons_of_mem _ (List.mem_cons_of_mem _ (List.mem_map.mpr ⟨s - 2100, List.mem_range.mpr (by omega), by omega⟩))
theorem RvL_tB (h : RvL n lim A B) : ∀ b, B 52 b ≠ 0 → A 52 b ≠ 0 ∨ b ∈ bks A n (tbl ++ List.range lim) := fun b hb => by
  rcases h b hb with y | ⟨s, h1, h2, h3, h4⟩
  · exact Or.inl y
  · refine Or.inr (List.mem_map.mpr ⟨s, ?_, h4.symm⟩)
    by_cases c : 2000 ≤ s
    · exact List.mem_append_left _ (vs_tbl h1 c)
    · exact List.mem_append_right _ (List.mem_range.mpr (by omega))
theorem sl_ptr (hp : ∀ i, 85 ≤ i → i < 95 → nd B n i = nd A n i) (pte : ∀ r k, pt B r k = pt A r k) : ∀ s, vs s → slo B n s = slo A n s := fun s hs => by
  have hh := (nee_ptr hp pte).1 s
  unfold slo
  rw [hp 93 (by omega) (by omega), hp 94 (by omega) (by omega), hh, pte]
theorem sl_N (hn : n < 64) (hx : x < 85) : ∀ s, vs s → slo (setN A n x v) n s = slo A n s := sl_ptr (fun i a b => by
  unfold nd
  rw [sN_36, if_neg (by omega)]) (fun r k => by
  unfold pt
  rw [sN_36, if_neg (by omega)])
/-- a file's blocks dropped down -/
theorem TL_dd (hn : n < 64) (hlo : ∀ j, sz ≤ 256 * j → lo ≤ j) : ∀ m (C A : tS), SR bi w C A → nd A n 0 = 1 → m ≤ 1064 → TL n lo 1064 A (dd n sz m A) ∧ RvL n 0 A (dd n sz m A) ∧ VL n A (dd n sz m A)
  | 0, _, _, _, _, _ => ⟨TL_r, RvL_r, VL_r⟩
  | m + 1, C, A, h, hk, hm => by
    show TL n lo 1064 A (if 256 * m < sz then A else dd n sz m (dropA A n m)) ∧ RvL n 0 A (if 256 * m < sz then A else dd n sz m (dropA A n m)) ∧ VL n A (if 256 * m < sz then A else dd n sz m (dropA A n m))
    by_cases c : 256 * m < sz
    · rw [if_pos c]
      exact ⟨TL_r, RvL_r, VL_r⟩
    · rw [if_neg c]
      obtain ⟨g1, g2, g3, g4, g5⟩ := SR_drop (i := m) h hn (Or.inl hk) (by omega) (fun q => by omega)
      exact all_t (TL_drop h hn (Or.inl hk) (by omega) (fun q => by omega) (hlo m (by omega)) (by omega) (fun q => by omega)) (TL_dd hn hlo m _ _ g1 (by rw [g4.2.2.2.1 n 0 hn (by omega)]; exact hk) (by omega))
/-- what is left of tables behind a place from which on there is nothing -/
theorem TG_lo {b : Nat} (hn : n < 64) (hF : TF B) (hh : ∀ i, i < 1064 → lo ≤ i → hasA B n i = 0) (h : TG n lo 1064 B b) : b ∈ 1 :: (2 + n / 2) :: bks B n [2001, pa lo] := by
  rcases h with h | h | ⟨s, h1, h2, h3, h4, j, j1, j2, j3, j4, j5⟩
  · rw [h]
    exact List.mem_cons_self
  · rw [h]
    exact List.mem_cons_of_mem _ List.mem_cons_self
  · refine List.mem_cons_of_mem _ (List.mem_cons_of_mem _ (List.mem_map.mpr ⟨s, ?_, h4.symm⟩))
    by_cases c : s = 2001
    · rw [c]
      exact List.mem_cons_self
    · have sj : s = pa j := by
        rcases j5 with y | y
        · exact y
        · exact absurd y.2 c
      obtain ⟨k, k1, k2⟩ := hF n s hn h2 h1 h3
      have e : chS s k < lo := by
        have i1 : chS s k < 1064 := by
          unfold vs at h2
          unfold chS
          rw [if_neg c]
          split <;> omega
        rw [hs_slo i1] at k2
        rcases Nat.lt_or_ge (chS s k) lo with y | y
        · exact y
        · exact absurd (hh _ i1 y) k2
      have : s = pa lo := by
        unfold chS at e
        rw [if_neg c] at e
        unfold pa at sj ⊢
        rw [if_neg (by omega)] at sj ⊢
        by_cases d : j < 40
        · rw [if_pos d] at sj
          rw [if_pos (by omega)]
          exact sj
        · rw [if_neg d] at sj
          rw [if_neg (show ¬ s = 2000 by omega)] at e
          rw [if_neg (by omega), sj]
          omega
      rw [this]
      exact List.mem_cons_of_mem _ List.mem_cons_self
theorem zb_rows (p : Nat) (h1 : p ≠ 47) (h2 : p ≠ 48) : zb A n l p = A p := by
  unfold zb
  split
  · exact zt_o h1 h2 _ _ _
  · rfl
theorem SR_z1 (h : SR bi w C A) (hn : n < 64) (hk : nd A n 0 = 1) (hz : sz < 272384) : ∃ Y, SR bi w Y (zb (up2 (setN A n 1 sz) 50 n 1) n sz) := by
  obtain ⟨k0, k1⟩ := hd_c h.ok h.mr hn
  obtain ⟨k1, k2, k3⟩ := k1 (by omega)
  obtain ⟨r1, r2, r3, r4, r5⟩ := setN_r (A := A) (v := sz) (x := 1) hn (by omega) (by omega)
  have hO := okT_sz h.ok hn (show sz ≤ 272384 by omega)
  have H1 : SR bi w (re1 C n sz) (setN A n 1 sz) := by
    unfold re1
    refine SR_hdr h hn r1 r2 r3 (by omega) hO ?_ ?_ ?_ ?_
    · rw [k0, r4 n 0 (by omega), if_neg (by omega)]
    · rw [k1, r4 n 2 (by omega), if_neg (by omega)]
    · rw [k2, r4 n 3 (by omega), if_neg (by omega)]
    · have x0 : nd (setN A n 1 sz) n 0 = 1 := by rw [r4 n 0 (by omega), if_neg (by omega)]; exact hk
      have x1 : nd (setN A n 1 sz) n 1 = sz := by rw [r4 n 1 (by omega), if_pos ⟨rfl, rfl⟩]
      rw [x0, x1, if_neg (by decide)]
  have H2 : SR bi w (up2 (re1 C n sz) 19 n 1) (up2 (setN A n 1 sz) 50 n 1) := SR_chg H1 ⟨fun q => by omega, fun q => by omega⟩
  exact ⟨_, (SR_zb H2 hn (by rw [nd_50, r4 n 0 (by omega), if_neg (by omega)]; exact hk) hz).1⟩
/-- a file's size set -/
theorem tB_sz (S : SR bi w C A) (P : PH t w A) (hn : n < 64) (n2 : nd A n 0 = 1) (hz : sz ≤ 272384) : tB ((2 + n / 2) :: 1 :: (2 + n / 2) :: bks (szA A n sz) n [2001, pa ((sz + 255) / 256)]) (bks A n tbl) A (szA A n sz) := by
  obtain ⟨g1, g2, g3, g4, g5, g6, g7, g8⟩ := SR_sz (sz := sz) S hn n2 hz (P.file hn n2)
  have tN := tB_N (A := A) (n := n) (x := 1) (v := sz)
  have b1 := (nd_k S.ok hn).2.1
  by_cases c : nd A n 1 = sz
  · have e : szA A n sz = setN A n 1 sz := if_pos c
    rw [e]
    exact tB_w tN (fun b hb => by rw [List.mem_singleton.mp hb]; exact List.mem_cons_self) (fun b hb => by cases hb)
  · have ez : szA A n sz = if nd A n 1 < sz then zb (up2 (setN A n 1 sz) 50 n 1) n (nd A n 1) else dd n sz ((nd A n 1 - 1) / 256 + 1) (zb (up2 (setN A n 1 sz) 50 n 1) n sz) := if_neg c
    by_cases c2 : nd A n 1 < sz
    · have e : szA A n sz = zb (up2 (setN A n 1 sz) 50 n 1) n (nd A n 1) := by rw [ez, if_pos c2]
      have : tB ([2 + n / 2] ++ []) ([] ++ []) A (szA A n sz) := tB_t tN (tB_e (by rw [e, zb_rows 51 (by decide) (by decide), up2_rown (by decide)]) (by rw [e, zb_rows 52 (by decide) (by decide), up2_rown (by decide)]))
      exact tB_w this (fun b hb => by rw [List.append_nil] at hb; rw [List.mem_singleton.mp hb]; exact List.mem_cons_self) (fun b hb => by cases hb)
    · have e : szA A n sz = dd n sz ((nd A n 1 - 1) / 256 + 1) (zb (up2 (setN A n 1 sz) 50 n 1) n sz) := by rw [ez, if_neg c2]
      obtain ⟨Y, hY⟩ : ∃ Y, SR bi w Y (zb (up2 (setN A n 1 sz) 50 n 1) n sz) := SR_z1 S hn n2 (by omega)
      have k0 : nd (zb (up2 (setN A n 1 sz) 50 n 1) n sz) n 0 = 1 := by
        unfold nd
        rw [zb_rows 36 (by decide) (by decide), up2_o (by decide), sN_36, if_neg (by omega)]
        exact n2
      obtain ⟨d1, d2, d3⟩ := TL_dd (lo := (sz + 255) / 256) (sz := sz) hn (fun j hj => by omega) ((nd A n 1 - 1) / 256 + 1) Y _ hY k0 (by omega)
      rw [← e] at d1 d2 d3
      have r51 : zb (up2 (setN A n 1 sz) 50 n 1) n sz 51 = setN A n 1 sz 51 := by rw [zb_rows 51 (by decide) (by decide), up2_rown (by decide)]
      have r52 : zb (up2 (setN A n 1 sz) 50 n 1) n sz 52 = A 52 := by
        rw [zb_rows 52 (by decide) (by decide), up2_rown (by decide)]
        funext b
        exact setN_o (by decide) (by decide)
      have sl : ∀ s, vs s → slo (zb (up2 (setN A n 1 sz) 50 n 1) n sz) n s = slo A n s := fun s hs => by
        rw [← sl_N (A := A) (x := 1) (v := sz) hn (by omega) s hs]
        exact sl_ptr (fun i _ _ => by unfold nd; rw [zb_rows 36 (by decide) (by decide), up2_o (by decide)]) (fun r k => by unfold pt; rw [zb_rows 36 (by decide) (by decide), up2_o (by decide)]) s hs
      have z6 : zb (up2 (setN A n 1 sz) 50 n 1) n sz 35 6 = A 35 6 := by rw [zb_rows 35 (by decide) (by decide), up2_o (by decide), setN_o (by decide) (by decide)]
      refine ⟨fun b hb => ?_, fun b hb => ?_⟩
      · rcases d1 b hb with ⟨y, -⟩ | y
        · rw [r51] at y
          rcases tN.1 b y with q | q
          · exact Or.inl q
          · exact Or.inr (by rw [List.mem_singleton.mp q]; exact List.mem_cons_self)
        · refine Or.inr (List.mem_cons_of_mem _ (TG_lo hn (g4 P.tf) (fun i hi q => g3 i hi (by omega)) y))
      · rcases d2 b hb with y | ⟨s, h1, h2, h3, h4⟩
        · rw [r52] at y
          exact Or.inl y
        · rw [sl s h1] at h3 h4
          rw [z6] at h4
          exact Or.inr (List.mem_map.mpr ⟨s, vs_tbl h1 (by omega), h4.symm⟩)
end GRE
