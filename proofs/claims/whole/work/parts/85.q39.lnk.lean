/-! ===== PURE: an entry that changes its node; a link set up, in both ===== -/
section SRDD
variable {bi : Nat → Nat} {w : Nat → Nat × Nat} {C A B X : tS} {W V : Nat → Nat} {n s i : Nat} {me : Bool}
theorem nmL_id {d k : Nat} {nm : Nat → Nat} : ∀ m i (A : tS), (∀ j, i ≤ j → j < i + m → A 36 (ex A d k (2 + j)) = nm j) → nmL d k nm m i A = A
  | 0, _, _, _ => rfl
  | m + 1, i, A, h => by
    show nmL d k nm m (i + 1) (up2 A 36 (ex A d k (2 + i)) (nm i)) = A
    rw [up2_ie (h i (by omega) (by omega))]
    exact nmL_id m (i + 1) A (fun j a b => h j (by omega) (by omega))
/-- the same name again -/
theorem add2_id {d k many v : Nat} {nm : Nat → Nat} (h1 : A 36 (ex A d k 1) = many) (h2 : ∀ j, j < many → A 36 (ex A d k (2 + j)) = nm j) : add2 A d k nm many v = putE A d k v := by
  unfold add2
  rw [up2_ie h1, nmL_id many 0 A (fun j _ b => h2 j (by omega))]
/-- an entry gets another node -/
theorem SR_pte {d k o st l v r : Nat} (h : SR bi w C A) (hd : d < 64) (hk2 : nd A d 0 = 2) (hk : k / 8 < 1064) (hr : hasA A d (k / 8) = r + 1) (ho : o ≠ 11) (hl : l ≤ 28) (hc : ∀ i, i < l → C o (st + i) < 128) (hv : v < 64) (h1 : A 36 (ex A d k 1) = l) (h2 : ∀ j, j < l → A 36 (ex A d k (2 + j)) = C o (st + j)) : SR bi w (seE C d k o st l v) (putE A d k v) := by
  have := SR_set2 h hd hk2 hk hr ho hl hc hv
  rwa [add2_id h1 h2] at this
/-- a node's text and its length put over, and its block touched -/
def ovT (n : Nat) (f : Nat → Nat) (A : tS) : tS := fun p j => if p = 36 ∧ n * 95 + 4 ≤ j ∧ j < n * 95 + 85 then f j else if p = 51 ∧ j = 2 + n / 2 then 1 else A p j
section OV
variable {f : Nat → Nat}
theorem ov_r {j : Nat} (h : ¬ (n * 95 + 4 ≤ j ∧ j < n * 95 + 85)) : ovT n f A 36 j = A 36 j := by
  unfold ovT
  rw [if_neg (fun q => h q.2), if_neg (by omega)]
theorem ov_row {p : Nat} (h : p ≠ 36) (h5 : p ≠ 51) : ovT n f A p = A p := by
  funext j
  unfold ovT
  rw [if_neg (fun q => h q.1), if_neg (fun q => h5 q.1)]
theorem ov_up {p j v : Nat} (h : ¬ (p = 36 ∧ n * 95 + 4 ≤ j ∧ j < n * 95 + 85)) (h5 : p = 51 → v = 1) : up2 (ovT n f A) p j v = ovT n f (up2 A p j v) := by
  funext p' j'
  unfold up2 ovT
  by_cases c : p' = p
  · by_cases d : j' = j
    · have e : ¬ (p' = 36 ∧ n * 95 + 4 ≤ j' ∧ j' < n * 95 + 85) := by rw [c, d]; exact h
      simp only [if_pos c, if_pos d, if_neg e]
      by_cases g : p' = 51 ∧ j' = 2 + n / 2
      · rw [if_pos g]
        exact h5 (by omega)
      · rw [if_neg g]
    · simp only [if_pos c, if_neg d]
  · simp only [if_neg c]
theorem ov_fl : ∀ m a (A : tS), fl 47 0 a m (ovT n f A) = ovT n f (fl 47 0 a m A)
  | 0, _, _ => rfl
  | m + 1, a, A => by
    show fl 47 0 (a + 1) m (up2 (ovT n f A) 47 a 0) = ovT n f (fl 47 0 (a + 1) m (up2 A 47 a 0))
    rw [ov_up (fun q => absurd q.1 (by decide)) (fun q => absurd q (by decide)), ov_fl m]
theorem ov_hi (hn : n < 64) {j : Nat} (h : 6080 ≤ j) : ovT n f A 36 j = A 36 j := ov_r (by omega)
theorem ov_nd {d x : Nat} (h : x < 4 ∨ 85 ≤ x) (hx : x < 95) : nd (ovT n f A) d x = nd A d x := ov_r (by omega)
theorem ov_pt (hn : n < 64) {r k : Nat} : pt (ovT n f A) r k = pt A r k := ov_hi hn (by omega)
theorem ov_lf (hn : n < 64) {d x : Nat} : leafA (ovT n f A) d x = leafA A d x := by
  unfold leafA
  rw [ov_nd (Or.inr (by omega)) (by omega), ov_nd (Or.inr (by omega)) (by omega), ov_pt hn]
theorem ov_has (hn : n < 64) {d x : Nat} : hasA (ovT n f A) d x = hasA A d x := by
  unfold hasA
  rw [ov_lf hn, ov_pt hn]
  by_cases c : x < 8
  · rw [if_pos c, if_pos c, ov_nd (Or.inr (by omega)) (by omega)]
  · rw [if_neg c, if_neg c]
theorem ov_ff (hn : n < 64) : ff (ovT n f A) = ff A := by
  have e : frA (ovT n f A) = frA A := by
    funext r
    unfold frA
    rw [ov_hi hn (by omega), ov_row (by decide) (by decide)]
  unfold ff
  rw [e, ov_row (by decide) (by decide)]
theorem ov_get (hn : n < 64) {r : Nat} : getA (ovT n f A) r me = ovT n f (getA A r me) := by
  have o1 : ∀ {p : Nat} (j v : Nat) (Z : tS), p ≠ 36 → p ≠ 51 → up2 (ovT n f Z) p j v = ovT n f (up2 Z p j v) := fun j v Z h h5 => ov_up (fun q => h q.1) (fun q => absurd q h5)
  have o2 : ∀ (j : Nat) (Z : tS), up2 (ovT n f Z) 51 j 1 = ovT n f (up2 Z 51 j 1) := fun j Z => ov_up (fun q => absurd q.1 (by decide)) (fun _ => rfl)
  have o3 : ∀ (j v : Nat) (Z : tS), 6080 ≤ j → up2 (ovT n f Z) 36 j v = ovT n f (up2 Z 36 j v) := fun j v Z h => ov_up (fun q => by omega) (fun q => absurd q (by decide))
  unfold getA
  rw [ov_row (show (35 : Nat) ≠ 36 by decide) (by decide)]
  cases me with
  | true => rw [cond_true, cond_true, o1 _ _ _ (by decide) (by decide), o3 _ _ _ (by omega), o3 _ _ _ (by omega), o2, o2, ov_fl, o1 _ _ _ (by decide) (by decide)]
  | false => rw [cond_false, cond_false, o1 _ _ _ (by decide) (by decide), o3 _ _ _ (by omega), o3 _ _ _ (by omega), o2, ov_fl, o1 _ _ _ (by decide) (by decide)]
theorem ov_setN {d x v : Nat} (h : x < 4 ∨ 85 ≤ x) (hx : x < 95) : setN (ovT n f A) d x v = ovT n f (setN A d x v) := by
  unfold setN
  rw [ov_up (fun q => by omega) (fun q => absurd q (by decide)), ov_up (fun q => absurd q.1 (by decide)) (fun _ => rfl)]
theorem ov_attN (hn : n < 64) {d x : Nat} (h : 85 ≤ x) (hx : x < 95) : attN (ovT n f A) d x me = ovT n f (attN A d x me) := by
  unfold attN
  rw [ov_ff hn, ov_get hn, ov_setN (Or.inr h) hx]
theorem ov_attP (hn : n < 64) {d x : Nat} : attP (ovT n f A) d x me = ovT n f (attP A d x me) := by
  unfold attP setP
  rw [ov_ff hn, ov_get hn, ov_row (show (35 : Nat) ≠ 36 by decide) (by decide), ov_up (fun q => by omega) (fun q => absurd q (by decide)), ov_up (fun q => absurd q.1 (by decide)) (fun _ => rfl)]
theorem ov_ens (hn : n < 64) {d x : Nat} : ensA (ovT n f A) d x = ovT n f (ensA A d x) := by
  have e1 : ∀ B, ens1 (ovT n f B) d x = ovT n f (ens1 B d x) := fun B => by
    unfold ens1
    rw [ov_nd (Or.inr (by omega)) (by omega), ov_attN hn (by omega) (by omega)]
    split <;> rfl
  have e2 : ∀ B, ens2 (ovT n f B) d x = ovT n f (ens2 B d x) := fun B => by
    unfold ens2
    rw [ov_nd (Or.inr (by omega)) (by omega), ov_attN hn (by omega) (by omega)]
    split <;> rfl
  have e3 : ∀ B, ens3 (ovT n f B) d x = ovT n f (ens3 B d x) := fun B => by
    unfold ens3
    rw [ov_lf hn, ov_nd (Or.inr (by omega)) (by omega), ov_attP hn]
    split <;> rfl
  have e4 : ∀ B, ens4 (ovT n f B) d x = ovT n f (ens4 B d x) := fun B => by
    unfold ens4
    rw [ov_nd (x := 0) (Or.inl (by omega)) (by omega)]
    by_cases c : x < 8
    · rw [if_pos c, if_pos c, ov_attN hn (by omega) (by omega)]
    · rw [if_neg c, if_neg c, ov_lf hn, ov_attP hn]
  unfold ensA
  rw [ov_has hn, ov_up (fun q => absurd q.1 (by decide)) (fun q => absurd q (by decide)), e1, e2, e3, e4]
  split <;> rfl
theorem ov_ex (hn : n < 64) {d k v : Nat} : ex (ovT n f A) d k v = ex A d k v := by
  unfold ex
  rw [ov_has hn]
theorem ov_eN (hn : n < 64) {d k : Nat} : eN (ovT n f A) d k = eN A d k := by
  unfold eN
  rw [ov_ex hn]
  exact ov_hi hn (by unfold ex; omega)
theorem ov_ffA (hn : n < 64) {d : Nat} : ffA (ovT n f A) d = ffA A d ∧ eAll (ovT n f A) d = eAll A d := by
  have e : eAll (ovT n f A) d = eAll A d := by
    unfold eAll
    rw [ov_nd (Or.inl (by omega)) (by omega)]
  refine ⟨?_, e⟩
  have e2 : (fun k => eN (ovT n f A) d k == 64) = (fun k => eN A d k == 64) := by
    funext k
    rw [ov_eN hn]
  unfold ffA
  rw [e, e2]
theorem ov_nm (hn : n < 64) {d k : Nat} {nm : Nat → Nat} : ∀ m i (A : tS), nmL d k nm m i (ovT n f A) = ovT n f (nmL d k nm m i A)
  | 0, _, _ => rfl
  | m + 1, i, A => by
    show nmL d k nm m (i + 1) (up2 (ovT n f A) 36 (ex (ovT n f A) d k (2 + i)) (nm i)) = ovT n f (nmL d k nm m (i + 1) (up2 A 36 (ex A d k (2 + i)) (nm i)))
    rw [ov_ex hn, ov_up (fun q => by unfold ex at q; omega) (fun q => absurd q (by decide)), ov_nm hn m]
theorem ov_add (hn : n < 64) {d l v : Nat} {nm : Nat → Nat} : addA (ovT n f A) d nm l v = ovT n f (addA A d nm l v) := by
  have a1 : add1 (ovT n f A) d = ovT n f (add1 A d) := by
    unfold add1
    rw [(ov_ffA hn).1, (ov_ffA hn).2, ov_ens hn, ov_setN (Or.inl (by omega)) (by omega)]
    split <;> rfl
  unfold addA add2 putE
  rw [a1, (ov_ffA hn).1, ov_ex hn, ov_up (fun q => by unfold ex at q; omega) (fun q => absurd q (by decide)), ov_nm hn, ov_ex hn, ov_has hn, ov_row (show (35 : Nat) ≠ 36 by decide) (by decide), ov_up (fun q => by unfold ex at q; omega) (fun q => absurd q (by decide)), ov_up (fun q => absurd q.1 (by decide)) (fun _ => rfl)]
end OV
/-- a text set, as one step -/
theorem slF_r {tx : Nat → Nat} : ∀ m k (A : tS), A 51 (2 + n / 2) = 1 → slF n tx k m A = fun p j => if p = 36 ∧ n * 95 + 5 + k ≤ j ∧ j < n * 95 + 5 + k + m then tx (j - (n * 95 + 5)) else A p j
  | 0, k, A, _ => by
    funext p j
    show A p j = _
    rw [if_neg (by omega)]
  | m + 1, k, A, h => by
    have e : setN A n (5 + k) (tx k) = up2 A 36 (n * 95 + (5 + k)) (tx k) := by
      unfold setN
      exact up2_ie (by rw [up2_o (by decide)]; exact h)
    show slF n tx (k + 1) m (setN A n (5 + k) (tx k)) = _
    rw [e, slF_r m (k + 1) _ (by rw [up2_o (by decide)]; exact h)]
    funext p j
    by_cases c : p = 36 ∧ n * 95 + 5 + (k + 1) ≤ j ∧ j < n * 95 + 5 + (k + 1) + m
    · rw [if_pos c, if_pos (by omega)]
    · rw [if_neg c]
      by_cases d : p = 36 ∧ j = n * 95 + (5 + k)
      · rw [if_pos (by omega), d.1, d.2, up2_s]
        congr 1
        omega
      · rw [if_neg (by omega)]
        unfold up2
        by_cases e : p = 36
        · rw [if_pos e, if_neg (by omega)]
        · rw [if_neg e]
/-- the places of a link's text as the reference leaves them -/
def txF (n l : Nat) (tx : Nat → Nat) (A : tS) (j : Nat) : Nat := if n * 95 + 5 ≤ j ∧ j < n * 95 + 5 + l then tx (j - (n * 95 + 5)) else if j = n * 95 + 4 then l else A 36 j
theorem slF_ov {tx : Nat → Nat} {l : Nat} (hl : l ≤ 80) (hA : ∀ j, n * 95 + 4 ≤ j → j < n * 95 + 85 → A 36 j = B 36 j) : slF n tx 0 l (setN A n 4 l) = ovT n (txF n l tx B) A := by
  have h : setN A n 4 l 51 (2 + n / 2) = 1 := up2_s _ _ _ _
  rw [slF_r l 0 _ h]
  funext p j
  unfold ovT txF setN
  by_cases c : p = 36 ∧ n * 95 + 5 + 0 ≤ j ∧ j < n * 95 + 5 + 0 + l
  · rw [if_pos c, if_pos (by omega), if_pos (by omega)]
  · rw [if_neg c]
    by_cases d : p = 36 ∧ n * 95 + 4 ≤ j ∧ j < n * 95 + 85
    · rw [if_pos d, if_neg (by omega), d.1, up2_o (by decide)]
      by_cases e : j = n * 95 + 4
      · rw [if_pos e, e, up2_s]
      · rw [if_neg e, up2_j e, hA j d.2.1 d.2.2]
    · rw [if_neg d]
      by_cases e : p = 51 ∧ j = 2 + n / 2
      · rw [if_pos e, e.1, e.2, up2_s]
      · rw [if_neg e]
        unfold up2
        by_cases g : p = 36
        · rw [if_neg (by omega), if_pos g, if_neg (by omega)]
        · rw [if_neg g]
          by_cases g2 : p = 51
          · rw [if_pos g2, if_neg (by omega)]
          · rw [if_neg g2]
theorem ov_id (h : A 51 (2 + n / 2) = 1) : ovT n (A 36) A = A := by
  funext p j
  unfold ovT
  by_cases d : p = 36 ∧ n * 95 + 4 ≤ j ∧ j < n * 95 + 85
  · rw [if_pos d, d.1]
  · rw [if_neg d]
    by_cases e : p = 51 ∧ j = 2 + n / 2
    · rw [if_pos e, e.1, e.2, h]
    · rw [if_neg e]
/-- a link's text may be set ahead of its entry -/
theorem sl_add {tx nm : Nat → Nat} {l d m v : Nat} (hn : n < 64) (hl : l ≤ 80) (h : A 51 (2 + n / 2) = 1) : slF n tx 0 l (setN (addA A d nm m v) n 4 l) = addA (slF n tx 0 l (setN A n 4 l)) d nm m v := by
  have q : addA A d nm m v = ovT n (A 36) (addA A d nm m v) := by
    rw [← ov_add hn, ov_id h]
  have q2 : ∀ j, n * 95 + 4 ≤ j → j < n * 95 + 85 → addA A d nm m v 36 j = A 36 j := fun j a b => by
    rw [q]
    unfold ovT
    rw [if_pos ⟨rfl, a, b⟩]
  rw [slF_ov hl q2, slF_ov (B := A) hl (fun _ _ _ => rfl), ov_add hn]
theorem sxN_se {c fr o : Nat} : ∀ m i (C : tS), sxN c fr o i m C = seN1 c fr o 0 i m C
  | 0, _, _ => rfl
  | m + 1, i, C => by
    show sxN c fr o (i + 1) m (sooC C c (fr + i) (C o i)) = seN1 c fr o 0 (i + 1) m (sooC C c (fr + i) (C o (0 + i)))
    rw [Nat.zero_add, sxN_se m]
/-- set up: a link and its text -/
theorem SR_set3 {o l d : Nat} (h : SR bi w C A) (hn : n < 64) (h0 : nd A n 0 = 0) (hl : l ≤ 80) (ho : o ≠ 11) (ho5 : o ≠ 10) (ho6 : o ≠ 15) (ho7 : o ≠ 19) (hc : ∀ i, i < l → C o i < 128) : SR bi w (sxT (suC C n 3 d) n o l) (slF n (C o) 0 l (setN (mk4 A n d 3) n 4 l)) := by
  have z1 := h.zm.1.1
  have hz := h.ti.2.2.1 n hn (by omega) (by omega)
  have hS := SR_chg (n := n) (v := 0) (v' := 0) h ⟨fun _ => rfl, fun _ => rfl⟩
  generalize hC1 : up2 C 19 n 0 = C1 at hS
  generalize hA1 : up2 A 50 n 0 = A1 at hS
  have A36 : A1 36 = A 36 := by rw [← hA1, up2_rown (by decide)]
  have A51 : A1 51 = A 51 := by rw [← hA1, up2_rown (by decide)]
  have C11 : C1 11 = C 11 := by rw [← hC1, up2_rown (by decide)]
  have C10 : C1 10 = C 10 := by rw [← hC1, up2_rown (by decide)]
  have C15 : C1 15 = C 15 := by rw [← hC1, up2_rown (by decide)]
  -- the class
  have s11 : ∀ q, suC C n 3 d 11 q = if q = 64 + n * 16 then hdV 3 1 0 0 else C 11 q := fun q => by
    unfold suC shC
    rw [up2_o (by decide), sn_11, if_neg (show ¬ (3 : Nat) = 2 by decide), if_neg (show ¬ (3 : Nat) = 2 by decide), Nat.add_zero]
  have sp : ∀ p, p ≠ 10 → p ≠ 11 → p ≠ 15 → suC C n 3 d p = C1 p := fun p p0 p1 p2 => by
    rw [← hC1]
    unfold suC shC snC up2
    funext j
    rw [tou_o p0 p2, if_neg p1]
  have s10 : ∀ q, q ≠ 11 → suC C n 3 d 10 q = C 10 q := fun q hq => by
    unfold suC shC
    rw [up2_o (by decide), sn_10 hq]
  have s15 : ∀ k, suC C n 3 d 15 k = 0 ↔ k ≠ 2 + n / 2 ∧ C 15 k = 0 := fun k => by
    unfold suC shC snC
    rw [up2_o (by decide), tou_15 (by omega) (by rw [up2_o (by decide), z1]; omega), up2_o (by decide)]
  have sci : ci (suC C n 3 d) := by
    unfold suC shC snC
    exact ci_19 (ci_tou (ci_11 h.rk.1))
  have so : suC C n 3 d o = C o := by rw [sp o ho5 ho ho6, ← hC1, up2_rown ho7]
  generalize hS2 : suC C n 3 d = S at s11 sp s10 s15 sci so
  obtain ⟨y1, y2, y3, y4⟩ := seN_r (c := 2 + n / 2) (fr := (n % 2 * 16 + 1) * 8) (st := 0) (o := o) (by omega) ho l 0 S (by rw [s10 7 (by decide), z1]; omega) (by omega)
  have yci : ci (seN1 (2 + n / 2) ((n % 2 * 16 + 1) * 8) o 0 0 l S) := ci_se1 _ _ _ sci
  unfold sxT
  dsimp only
  rw [sxN_se]
  generalize hY : seN1 (2 + n / 2) ((n % 2 * 16 + 1) * 8) o 0 0 l S = Y at y1 y2 y3 y4 yci
  have yh : nwC Y n 0 = hdV 3 1 0 0 := by
    show Y 11 (64 + n * 16 + 0) = _
    rw [y4 _ (by omega), s11, if_pos (by omega)]
  have ki : kiC Y n = 3 := by unfold kiC; rw [yh]; rfl
  have na : naC Y n = 1 := by unfold naC; rw [yh]; rfl
  have pr : prC Y n = 0 := by unfold prC; rw [yh]; rfl
  rw [ki, na, pr]
  unfold shC
  have x11 : ∀ q, snC Y n 0 (hdV 3 1 0 l) 11 q = if q = 64 + n * 16 then hdV 3 1 0 l else Y 11 q := fun q => by rw [sn_11]; rfl
  -- the reference
  have m36 : ∀ j, mk4 A n d 3 36 j = if j = n * 95 + 3 then 0 else if j = n * 95 + 2 then 1 else if j = n * 95 + 1 then 0 else if j = n * 95 + 0 then 3 else A 36 j := fun j => by
    have e : ∀ (Y : tS) x v, setN Y n x v 36 j = if j = n * 95 + x then v else Y 36 j := fun Y x v => by
      unfold setN
      rw [up2_o (by decide)]
      by_cases c : j = n * 95 + x
      · rw [if_pos c, c, up2_s]
      · rw [if_neg c, up2_j c]
    unfold mk4
    rw [up2_o (by decide), e, e, e, e]
    rfl
  have mo : ∀ p, p ≠ 36 → p ≠ 51 → mk4 A n d 3 p = A1 p := fun p p0 p1 => by
    rw [← hA1]
    unfold mk4 setN up2
    funext j
    by_cases c : p = 50
    · rw [if_pos c, if_pos c]
      simp only [if_neg p0, if_neg p1]
    · rw [if_neg c, if_neg c]
      simp only [if_neg p0, if_neg p1]
  have m51 : ∀ b, mk4 A n d 3 51 b = 0 ↔ b ≠ 2 + n / 2 ∧ A 51 b = 0 := fun b => by
    unfold mk4 setN
    rw [up2_o (by decide)]
    by_cases c : b = 2 + n / 2
    · rw [c, up2_s]
      exact ⟨fun q => by omega, fun q => absurd rfl q.1⟩
    · rw [up2_j c, up2_o (by decide), up2_j c, up2_o (by decide), up2_j c, up2_o (by decide), up2_j c, up2_o (by decide)]
      exact ⟨fun q => ⟨c, q⟩, fun q => q.2⟩
  rw [slF_ov (B := mk4 A n d 3) hl (fun _ _ _ => rfl)]
  generalize hM : mk4 A n d 3 = M at m36 mo m51
  have b36 : ∀ j, ovT n (txF n l (C o) M) M 36 j = if n * 95 + 5 ≤ j ∧ j < n * 95 + 5 + l then C o (j - (n * 95 + 5)) else if j = n * 95 + 4 then l else M 36 j := fun j => by
    unfold ovT txF
    by_cases c : n * 95 + 4 ≤ j ∧ j < n * 95 + 85
    · rw [if_pos ⟨rfl, c⟩]
    · rw [if_neg (fun q => c q.2), if_neg (by omega), if_neg (by omega), if_neg (by omega)]
  have bo : ∀ p, p ≠ 36 → p ≠ 51 → ovT n (txF n l (C o) M) M p = A1 p := fun p p0 p1 => by rw [ov_row p0 p1, mo p p0 p1]
  have b51 : ∀ b, ovT n (txF n l (C o) M) M 51 b = 0 ↔ b ≠ 2 + n / 2 ∧ A1 51 b = 0 := fun b => by
    unfold ovT
    rw [if_neg (by omega), A51]
    by_cases c : b = 2 + n / 2
    · rw [if_pos ⟨rfl, c⟩]
      exact ⟨fun q => by omega, fun q => absurd c q.1⟩
    · rw [if_neg (fun q => c q.2)]
      exact m51 b
  generalize hB : ovT n (txF n l (C o) M) M = B at b36 bo b51
  have n0 : nd B n 0 = 3 := by unfold nd; rw [b36, if_neg (by omega), if_neg (by omega), m36, if_neg (by omega), if_neg (by omega), if_neg (by omega), if_pos (by omega)]
  have n2 : nd B n 2 = 1 := by unfold nd; rw [b36, if_neg (by omega), if_neg (by omega), m36, if_neg (by omega), if_pos (by omega)]
  have n3 : nd B n 3 = 0 := by unfold nd; rw [b36, if_neg (by omega), if_neg (by omega), m36, if_pos (by omega)]
  have n4 : nd B n 4 = l := by unfold nd; rw [b36, if_neg (by omega), if_pos (by omega)]
  refine SR_nod hS hn (fun j hj => by rw [b36, if_neg (by omega), if_neg (by omega), m36, if_neg (by omega), if_neg (by omega), if_neg (by omega), if_neg (by omega), A36]) ⟨fun k => ?_, fun b => by rw [nb_n hn]; exact b51 b, fun p p0 p1 p2 => ?_, fun q hq => ?_, bo, ci_tou (ci_11 yci)⟩ (fun q hq => ?_) (Or.inr (fun i hi => by unfold nd; rw [A36]; exact hz i hi)) ⟨?_, fun _ i hi => ?_, fun c => absurd n0 c, fun c => by omega⟩ (fun j => ?_)
  · unfold snC
    rw [tou_15 (by omega) (by rw [up2_o (by decide), y3 10 (by decide), s10 7 (by decide), z1]; omega), up2_o (by decide), y3 15 (by decide), s15, C15]
    exact ⟨fun q => q.2, fun q => ⟨q.1, q⟩⟩
  · unfold snC
    rw [tou_o p0 p2, up2_rown p1, y3 p p1, sp p p0 p1 p2]
  · rw [sn_10 hq, y3 10 (by decide), s10 q hq, C10]
  · rw [x11, if_neg (by omega), C11]
    by_cases c : q < (2 + n / 2) * 32 ∨ (2 + n / 2) * 32 + 32 ≤ q
    · rw [y2 q c, s11, if_neg (by omega)]
    · rw [y4 q (by omega), s11, if_neg (by omega)]
  · rw [x11, if_pos (by omega), n0, n2, n3, n4, if_neg (by decide), if_pos rfl]
  · rw [n4] at hi
    have e : nd B n (5 + i) = C o i := by
      unfold nd
      rw [b36, if_pos (by omega)]
      congr 1
      omega
    have e2 : oW (snC Y n 0 (hdV 3 1 0 l) 11) (2 + n / 2) ((n % 2 * 16 + 1) * 8 + i) = oW (Y 11) (2 + n / 2) ((n % 2 * 16 + 1) * 8 + i) := oW_e (by rw [x11, if_neg (by omega)]) rfl
    rw [e, e2, y1, if_pos (by omega), so, show 0 + ((n % 2 * 16 + 1) * 8 + i - (n % 2 * 16 + 1) * 8) = i by omega]
    have := hc i hi
    omega
  · have ok := h.ok j
    have bt : ∀ x v, x < 95 → v < bN x → j = n * 95 + x → v < bT j := fun x v hx hv e => by
      rw [e, bT_n hn hx]
      exact hv
    rw [b36]
    by_cases c : n * 95 + 5 ≤ j ∧ j < n * 95 + 5 + l
    · rw [if_pos c]
      refine bt (j - n * 95) _ (by omega) ?_ (by omega)
      unfold bN
      rw [if_neg (by omega), if_neg (by omega), if_neg (by omega), if_neg (by omega), if_neg (by omega), if_pos (by omega)]
      exact hc _ (by omega)
    · rw [if_neg c]
      by_cases c4 : j = n * 95 + 4
      · rw [if_pos c4]
        exact bt 4 l (by omega) (show l < 81 by omega) c4
      · rw [if_neg c4, m36]
        by_cases c3 : j = n * 95 + 3
        · rw [if_pos c3]
          omega
        · rw [if_neg c3]
          by_cases c2 : j = n * 95 + 2
          · rw [if_pos c2]
            exact bt 2 1 (by omega) (show 1 < 256 by omega) c2
          · rw [if_neg c2]
            by_cases c1 : j = n * 95 + 1
            · rw [if_pos c1]
              omega
            · rw [if_neg c1]
              by_cases c0 : j = n * 95 + 0
              · rw [if_pos c0]
                exact bt 0 3 (by omega) (show 3 < 4 by omega) c0
              · rw [if_neg c0]
                exact ok
end SRDD
