/-! ===== PURE: create, mkdir, symlink, in both: the steps ===== -/
/-- a node set up, and a link's text -/
def mkS (A : tS) (n d v : Nat) : tS := if v = 3 then slF n (A 63) 0 (A 64 1) (setN (mk4 A n d 3) n 4 (A 64 1)) else mk4 A n d v
def mkC (C : tS) (n d v : Nat) : tS := if v = 3 then sxT (suC C n 3 d) n 31 (C 30 1) else suC C n v d
section MKC
variable {b0 fu : Nat} {σ τ ρ : tM} {bi sp : Nat → Nat} {w : Nat → Nat × Nat} {C C' X : tS} {D D' : tD} {A B : tS} {J J' : tJ} {K n m k r t d l v un e o st : Nat}
theorem is_pt (hv : v < 2) : isPT (28 + 2 * v) (29 + 2 * v) := by
  have : v = 0 ∨ v = 1 := by omega
  rcases this with rfl | rfl
  · exact Or.inl ⟨rfl, rfl⟩
  · exact Or.inr ⟨rfl, rfl⟩
/-- addEntry where the two memories are alike -/
theorem addE_c (hv : v < 2) (hu : 10000 ≤ fu) (h : CM b0 σ C D) (S : SR bi w C A) (hD : DI w A) (hd : d < 64) (h2 : nd A d 0 = 2) (t1 : ffA A d / 8 < 1063) (hf : ffA A d = eAll A d → obN C d (ffA A d / 8) ≤ fre A) (h34 : A 35 34 + 3 < 1000000) (hn : n < 64) (hst : C (28 + 2 * v) 2 = st) (hl : C (28 + 2 * v) 3 = l) (hl2 : l ≤ 28) (hs2 : st + l ≤ 120) :
    wp (FC b0) σ (m_X8_addEntry b0 fu (b0 + 18) (nI d) (b0 + (28 + 2 * v)) (nI n) σ) (fun _ τ => CM b0 τ (adEn C d (29 + 2 * v) st l n) D) := by
  obtain ⟨ea, ep⟩ := pf_eq (VW_of S hD) hd h2 (fun k a b => (hD.2.1 d k hd h2 a b).2)
  have f9 := fre_c S.rk.2.1 S.zm
  have b15 := (S.bj.1 0).2
  have le := ff_le (A := A) (d := d)
  have z1 := (hD.1 d hd h2).1
  refine addEntry_c (fu := fu) (is_pt hv) h S.rk.1 S.rk.2.1 hd (sz_le S hd) (by rw [ep]; omega) hn hst hl hl2 hs2 (fun a _ => ?_) (fun a => ?_) (by omega) (KC_obT _ (by omega)) hu
  · rw [ep, ea] at a
    rw [ep, f9]
    exact hf (by omega)
  · rw [ep, ea] at a
    rw [ep]
    have he : ffA A d = eAll A d := by omega
    obtain ⟨bi', w', g1, g2, -⟩ := SR_ens S hd (Or.inr h2) (show ffA A d / 8 < 1064 by omega) (fun _ => hf he) h34
    have k0 := g2.2.2 d 0 hd (by omega)
    have k1 := g2.2.2 d 1 hd (by omega)
    have := ((hd_c g1.ok g1.mr hd).2 (by omega)).2.2
    rw [if_neg (by omega), k1] at this
    rw [this]
    unfold eAll at he
    omega
/-- a new node's words change nothing for a directory -/
theorem nee_oth (h36 : ∀ j, ¬ (n * 95 ≤ j ∧ j < n * 95 + 85) → B 36 j = A 36 j) (h49 : B 49 = A 49) (h7 : B 35 7 = A 35 7) (hn : n < 64) (hd : d < 64) (dn : d ≠ n) : (∀ i, hasA B d i = hasA A d i) ∧ nee B d k m = nee A d k m ∧ fre B = fre A := by
  have ptr : ∀ i, i < 95 → nd B d i = nd A d i := fun i b => h36 _ (by omega)
  have pte : ∀ r k, pt B r k = pt A r k := fun r k => h36 _ (by omega)
  have lf : ∀ i, leafA B d i = leafA A d i := fun i => by
    unfold leafA
    rw [ptr 93 (by omega), ptr 94 (by omega), pte]
  have hs : ∀ i, hasA B d i = hasA A d i := fun i => by
    unfold hasA
    rw [lf, pte]
    by_cases c : i < 8
    · rw [if_pos c, if_pos c, ptr _ (by omega)]
    · rw [if_neg c, if_neg c]
  refine ⟨hs, ?_, ?_⟩
  · have nl : ∀ m i ll s t, ndL B d m i ll s t = ndL A d m i ll s t := by
      intro m
      induction m with
      | zero =>
        intro i ll s t
        rfl
      | succ m ih =>
        intro i ll s t
        unfold ndL
        simp only [hs, lf, ih]
    unfold nee
    rw [nl, ptr 93 (by omega), ptr 94 (by omega)]
  · unfold fre
    rw [h7]
    refine cn_congr _ _ (fun i _ _ => ?_)
    unfold frA
    rw [h49, h36 _ (by omega)]
theorem sN_36 {x j : Nat} : setN A n x v 36 j = if j = n * 95 + x then v else A 36 j := by
  unfold setN
  rw [up2_o (by decide), up2_if]
  by_cases c : j = n * 95 + x
  · rw [if_pos c, if_pos ⟨rfl, c⟩]
  · rw [if_neg c, if_neg (fun q => c q.2)]
theorem KR_sl {tx : Nat → Nat} : ∀ m k (A : tS), KR A (slF n tx k m A)
  | 0, _, _ => KR_r
  | m + 1, k, A => KR_t KR_N (KR_sl m (k + 1) _)
theorem KR_mk : KR A (mk4 A n d v) := by
  unfold mk4
  exact KR_t (KR_t (KR_t (KR_t KR_N KR_N) KR_N) KR_N) ⟨fun o a b c => up2_rown (by omega), fun q _ => up2_o (by decide), by rw [up2_o (by decide)]; exact Nat.le_refl _⟩
theorem mk4_36 {j : Nat} : mk4 A n d v 36 j = if j = n * 95 + 3 then (if v = 2 then d else 0) else if j = n * 95 + 2 then (if v = 2 then 0 else 1) else if j = n * 95 + 1 then 0 else if j = n * 95 + 0 then v else A 36 j := by
  unfold mk4
  rw [up2_o (by decide), sN_36, sN_36, sN_36, sN_36]
theorem mk4_51 : mk4 A n d v 51 (2 + n / 2) = 1 := by
  unfold mk4
  rw [up2_o (by decide)]
  exact up2_s _ _ _ _
theorem mkS_fx (hn : n < 64) (hl : v = 3 → A 64 1 ≤ 80) : (∀ j, ¬ (n * 95 ≤ j ∧ j < n * 95 + 85) → mkS A n d v 36 j = A 36 j) ∧ nd (mkS A n d v) n 0 = v ∧ nd (mkS A n d v) n 1 = 0 ∧ (v ≠ 2 → nd (mkS A n d v) n 2 = 1) ∧ (v = 2 → nd (mkS A n d v) n 3 = d) ∧ (v = 3 → nd (mkS A n d v) n 4 = A 64 1) ∧ KR A (mkS A n d v) ∧ mkS A n d v 49 = A 49 ∧ mkS A n d v 35 = A 35 := by
  by_cases c : v = 3
  · have l80 := hl c
    have e : mkS A n d v = slF n (A 63) 0 (A 64 1) (setN (mk4 A n d 3) n 4 (A 64 1)) := if_pos c
    have e36 : ∀ j, ¬ (n * 95 + 5 ≤ j ∧ j < n * 95 + 85) → mkS A n d v 36 j = if j = n * 95 + 4 then A 64 1 else mk4 A n d 3 36 j := fun j hj => by
      rw [e, slF_r (A 64 1) 0 (setN (mk4 A n d 3) n 4 (A 64 1)) (up2_s _ _ _ _)]
      show (if 36 = 36 ∧ n * 95 + 5 + 0 ≤ j ∧ j < n * 95 + 5 + 0 + A 64 1 then _ else _) = _
      rw [if_neg (by omega), sN_36]
    subst c
    unfold nd
    refine ⟨fun j hj => ?_, ?_, ?_, fun _ => ?_, fun q => by omega, fun _ => ?_, ?_, ?_, ?_⟩
    · rw [e36 j (by omega), if_neg (by omega), mk4_36, if_neg (by omega), if_neg (by omega), if_neg (by omega), if_neg (by omega)]
    · rw [e36 _ (by omega), if_neg (by omega), mk4_36, if_neg (by omega), if_neg (by omega), if_neg (by omega), if_pos rfl]
    · rw [e36 _ (by omega), if_neg (by omega), mk4_36, if_neg (by omega), if_neg (by omega), if_pos rfl]
    · rw [e36 _ (by omega), if_neg (by omega), mk4_36, if_neg (by omega), if_pos rfl, if_neg (by decide)]
    · rw [e36 _ (by omega), if_pos rfl]
    · rw [e]
      exact KR_t KR_mk (KR_t KR_N (KR_sl _ _ _))
    · rw [e]
      funext j
      rw [slF_o (by decide) (by decide), setN_o (by decide) (by decide)]
      unfold mk4
      rw [up2_o (by decide), setN_o (by decide) (by decide), setN_o (by decide) (by decide), setN_o (by decide) (by decide), setN_o (by decide) (by decide)]
    · rw [e]
      funext j
      rw [slF_o (by decide) (by decide), setN_o (by decide) (by decide)]
      unfold mk4
      rw [up2_o (by decide), setN_o (by decide) (by decide), setN_o (by decide) (by decide), setN_o (by decide) (by decide), setN_o (by decide) (by decide)]
  · have e : mkS A n d v = mk4 A n d v := if_neg c
    rw [e]
    unfold nd
    refine ⟨fun j hj => ?_, ?_, ?_, fun q => ?_, fun q => ?_, fun q => absurd q c, KR_mk, ?_, ?_⟩
    · rw [mk4_36, if_neg (by omega), if_neg (by omega), if_neg (by omega), if_neg (by omega)]
    · rw [mk4_36, if_neg (by omega), if_neg (by omega), if_neg (by omega), if_pos rfl]
    · rw [mk4_36, if_neg (by omega), if_neg (by omega), if_pos rfl]
    · rw [mk4_36, if_neg (by omega), if_pos rfl, if_neg q]
    · rw [mk4_36, if_pos rfl, if_pos q]
    · funext j
      unfold mk4
      rw [up2_o (by decide), setN_o (by decide) (by decide), setN_o (by decide) (by decide), setN_o (by decide) (by decide), setN_o (by decide) (by decide)]
    · funext j
      unfold mk4
      rw [up2_o (by decide), setN_o (by decide) (by decide), setN_o (by decide) (by decide), setN_o (by decide) (by decide), setN_o (by decide) (by decide)]
theorem SR_mkS (S : SR bi w C A) (T : TP C A) (hP : patOk A) (hv : v = 1 ∨ v = 2 ∨ v = 3) (hn : n < 64) (h0 : nd A n 0 = 0) (hd : d < 64) (hl : v = 3 → A 64 1 ≤ 80) : SR bi w (mkC C n d v) (mkS A n d v) := by
  unfold mkC mkS
  by_cases c : v = 3
  · rw [if_pos c, if_pos c]
    have e63 : C 31 = A 63 := funext T.2.2.2.2.2.2
    have := SR_set3 (o := 31) (l := A 64 1) (d := d) S hn h0 (hl c) (by decide) (by decide) (by decide) (by decide) (fun i hi => by
      rw [e63]
      have : A 63 i ≤ 126 := ((hP 1 (by omega)).2 i hi).2
      omega)
    rw [e63] at this
    rw [T.2.2.2.1]
    exact this
  · rw [if_neg c, if_neg c]
    exact SR_set S hn h0 (by omega) hd
theorem KC_mk : KC C (mkC C n d v) := by
  unfold mkC
  split
  · exact KC_t KC_su KC_sxT
  · exact KC_su
end MKC
