/-! ===== PURE: rename, in both: the move ===== -/
section RNN
variable {b0 fu : Nat} {σ τ ρ : tM} {bi sp : Nat → Nat} {w : Nat → Nat × Nat} {C C' X : tS} {D D' : tD} {A B : tS} {J J' : tJ} {K n m k r t d l v un e o st x G : Nat}
theorem fA_hit {nm : Nat → Nat} (ho : okT A) (h : fA A d nm l < eAll A d) : eN A d (fA A d nm l) < 64 ∧ A 36 (ex A d (fA A d nm l) 1) = l ∧ ∀ j, j < l → A 36 (ex A d (fA A d nm l) (2 + j)) = nm j := by
  have h1 := eN_f (A := A) (d := d) (nm := nm) (n := l) ho (by omega)
  have h2 : fP A d nm l (fA A d nm l) = true := sr_is (fP A d nm l) (eAll A d) 0 (by show fA A d nm l < 0 + eAll A d; omega)
  generalize fA A d nm l = F at *
  unfold fP at h2
  rw [Bool.and_eq_true, Bool.and_eq_true] at h2
  obtain ⟨-, h3, h4⟩ := h2
  refine ⟨h1, ?_, fun j hj => ?_⟩
  · have : eL A d F = l := by simpa using h3
    exact this
  · have h5 : sr (fun i => eC A d F i != nm i) 0 l = l := of_decide_eq_true h4
    have := (sr_all (p := fun i => eC A d F i != nm i) l 0).mp (by omega) j (Nat.zero_le _) (by omega)
    have : eC A d F j = nm j := by simpa using this
    exact this
theorem lk_cg (h36 : B 36 = A 36) (h49 : B 49 = A 49) (h7 : B 35 7 = A 35 7) (hd : d < 64) : lkA B d = lkA A d ∧ ffA B d = ffA A d ∧ eAll B d = eAll A d := by
  have e1 := (fA_36 (A := A) (B := B) (d := d) (nm := fun _ => 0) (l := 0) h36).2
  have e2 : ffA B d = ffA A d := by
    unfold ffA
    rw [e1]
    unfold eN ex hasA leafA pt nd
    rw [h36]
  obtain ⟨-, e3, e4⟩ := nee_oth (A := A) (B := B) (n := if d = 0 then 1 else 0) (d := d) (k := ffA A d / 8) (m := ffA A d / 8) (fun j _ => by rw [h36]) h49 h7 (by split <;> omega) hd (by split <;> omega)
  refine ⟨?_, e2, e1⟩
  unfold lkA
  rw [e1, e2, e3, e4]
theorem bw_36 (h36 : B 36 = A 36) : ∀ f d, bwA B n f d = bwA A n f d
  | 0, _ => rfl
  | f + 1, d => by
    show (if d = n then true else if d = 0 then false else bwA B n f (nd B d 3)) = (if d = n then true else if d = 0 then false else bwA A n f (nd A d 3))
    have : nd B d 3 = nd A d 3 := by
      unfold nd
      rw [h36]
    rw [this, bw_36 h36 f]
theorem rnM_36 (h36 : B 36 = A 36) (h49 : B 49 = A 49) (h7 : B 35 7 = A 35 7) (he : e < 64) (T : Option Nat) : rnM B n e T = rnM A n e T := by
  have nd_e : ∀ a i, nd B a i = nd A a i := fun a i => by
    unfold nd
    rw [h36]
  cases T with
  | none =>
    show mrN B n e = mrN A n e
    unfold mrN lk0
    rw [nd_e, bw_36 h36, (lk_cg h36 h49 h7 he).1]
  | some x =>
    show mrS B n e x = mrS A n e x
    unfold mrS
    rw [nd_e, nd_e, nd_e, bw_36 h36]
theorem kf_e (h36 : B 36 = A 36) {nm : Nat → Nat} (h67 : ∀ i, i < l → B 67 i = nm i) (h53 : B 35 53 = l) : kf B e = fA A e nm l ∧ eAll B e = eAll A e := by
  unfold kf
  rw [h53, fA_cong h67, (fA_36 (A := A) (d := e) (nm := nm) (l := l) h36).1]
  exact ⟨rfl, (fA_36 (A := A) (d := e) (nm := fun _ => 0) (l := 0) h36).2⟩
theorem rn98_c {E : Nat → tS} {x2 : Int32} {T : Option Nat} (hu : 10000 ≤ fu) (ht : t < 1000) (hE : ∀ s, sC B (E s)) (zE : ∀ s, E s 35 0 = 0) (q : RO (PH t) bi sp w C D B J) (c : CM b0 ρ C D) (dk : dsk B K) (hP : patOk B) (h34 : B 35 34 + 3 < 1000000) (d1 : d < 64) (d2 : nd B d 0 = 2) (hk : k < eAll B d) (hx : eN B d k = n) (n1 : n < 64) (e1 : e < 64) (e2 : nd B e 0 = 2) (l1 : 1 ≤ lsN B 1) (l28 : lsN B 1 ≤ 28)
    (h67 : ∀ s i, i < lsN B 1 → E s 67 i = B 63 (lsF B 1 + i)) (h53 : ∀ s, E s 35 53 = lsN B 1) (hG : fA B e (fun i => B 63 (lsF B 1 + i)) (lsN B 1) = G) (hT : T = if G < eAll B e then some (eN B e G) else none) (hx2 : x2 = if G < eAll B e then nI G else -1) :
    wp (FC b0) ρ (J_X10_rename_98 b0 fu (b0 + 0) (nI k) x2 (nI d) (nI e) (nI n) (tz T) ρ) (fun v τ => ∀ s, QA (PH (t + 1)) b0 D J K v τ (rn2 d k n (E s) e)) := by
  have L := c.lay
  have S := q.2.1
  have P := q.2.2.1
  have TT := q.1.2.2.2.2.2.2.2.2.2
  have E36 : ∀ s, E s 36 = B 36 := fun s => (hE s).1 36 (by omega)
  have E49 : ∀ s, E s 49 = B 49 := fun s => (hE s).1 49 (by omega)
  have E35 : ∀ s j, j ≠ 0 → j ≠ 51 → j ≠ 53 → E s 35 j = B 35 j := fun s j a b c => (hE s).2 j a b c
  have nds : ∀ s a i, nd (E s) a i = nd B a i := fun s a i => by
    unfold nd
    rw [E36]
  have qs : ∀ s, RO (PH t) bi sp w C D (E s) J := fun s => RO_scr (PH_good t) PH_ok q (hE s)
  have ds : ∀ s, dsk (E s) K := fun s => dsk_scr dk (hE s)
  have id : ∀ (y : Int) s, QA (PH (t + 1)) b0 D J K (.inl (iz y)) ρ (y, E s) := fun y s => QA_id (Nat.le_succ _) (qs s) c (ds s) (zE s)
  have kE : ∀ s, kf (E s) e = G ∧ eAll (E s) e = eAll B e := fun s => by
    have := kf_e (e := e) (E36 s) (h67 s) (h53 s)
    rw [hG] at this
    exact this
  have eNs : ∀ s a i, eN (E s) a i = eN B a i := fun s a i => by
    unfold eN ex hasA leafA pt nd
    rw [E36]
  have rT : ∀ s, rnT (E s) e = T := fun s => by
    unfold rnT
    rw [(kE s).1, (kE s).2, eNs, hT]
  have rM : ∀ s, rnM (E s) n e T = rnM B n e T := fun s => rnM_36 (E36 s) (E49 s) (E35 s 7 (by decide) (by decide) (by decide)) e1 T
  have r2 : ∀ s, rn2 d k n (E s) e = if T = some n then ((n : Int), E s) else if rnM B n e T < 0 then (rnM B n e T, E s) else ((n : Int), rnE (rnP (rn1 (E s) n e T) n e) d k T) := fun s => by
    unfold rn2
    rw [rT s, rM s]
  have mb := rnM_bd (A := B) (n := n) (e := e) T
  have hx64 : ∀ x, T = some x → x < 64 ∧ G < eAll B e ∧ eN B e G = x := fun x y => by
    rw [hT] at y
    by_cases cG : G < eAll B e
    · rw [if_pos cG] at y
      have z := (fA_hit (A := B) (d := e) (nm := fun i => B 63 (lsF B 1 + i)) (l := lsN B 1) S.ok (by rw [hG]; exact cG)).1
      rw [hG] at z
      have y : eN B e G = x := by injection y
      exact ⟨by omega, cG, y⟩
    · rw [if_neg cG] at y
      cases y
  have n0 := (P.di.2.1 d k d1 d2 hk (by omega)).1
  rw [hx] at n0
  have le := ls_le B 1
  have pl := (hP 1 (by omega)).1
  have c31 : ∀ j, C 31 j = B 63 j := TT.2.2.2.2.2.2
  have c30 : C 30 2 = lsF B 1 := TT.2.2.2.2.1
  have c30' : C 30 3 = lsN B 1 := TT.2.2.2.2.2.1
  have ch : ∀ i, i < lsN B 1 → C 31 (lsF B 1 + i) < 128 := fun i hi => by
    rw [c31]
    have : B 63 (lsF B 1 + i) ≤ 126 := ((hP 1 (by omega)).2 (lsF B 1 + i) (by omega)).2
    omega
  have bwE : nd B n 0 = 2 → ¬ rnM B n e T < 0 → bwA B n 64 e = false := fun y z => by
    cases cb : bwA B n 64 e with
    | false => rfl
    | true =>
      exfalso
      apply z
      cases T with
      | none =>
        show mrN B n e < 0
        unfold mrN
        rw [if_pos y, cb, if_pos rfl]
        decide
      | some x =>
        show mrS B n e x < 0
        unfold mrS
        rw [if_pos y, cb, if_pos rfl]
        decide
  unfold J_X10_rename_98
  cases T with
  | some x =>
    obtain ⟨x1, cG, exG⟩ := hx64 x rfl
    show wp (FC b0) ρ (if nI x = nI n then _ else _) _
    rw [if_e (by omega) (by omega)]
    by_cases cx : x = n
    · rw [if_pos cx]
      refine wp_ret ((FC_good b0).1 _) (fun s => ?_)
      rw [r2 s, if_pos (by rw [cx]), ← iz_n]
      exact id _ s
    have cT : ¬ some x = some n := fun y => cx (by injection y)
    rw [if_neg cx, ckC_0 L, refuseMove_c (fu := fu) hu c.ca S P ht n1 e1 e2 (some x) (fun y z => by injection z with z; omega), cll_some]
    by_cases cm : rnM B n e (some x) < 0
    · rw [if_neg (fun y => by have := (iz_ge mb.1 mb.2).mp y; omega)]
      refine wp_ret ((FC_good b0).1 _) (fun s => ?_)
      rw [r2 s, if_neg cT, if_pos cm]
      exact id _ s
    obtain ⟨y1, y2⟩ := eA_lt S.ok e1 cG
    have Gb : G < 8512 := by
      have := (nd_k S.ok e1).2.1
      unfold eAll at cG
      omega
    have xk : x2 = nI G := by rw [hx2, if_pos cG]
    rw [if_pos ((iz_ge mb.1 mb.2).mpr (by omega)), xk, if_pos (iz_neg (by omega)), ckC_0 L, osm_p (rfC_0_2 L), osm_p (rfC_0_8 L), ckC_18 L]
    refine wp_bind (FC_good b0) (setEntry_c (fu := fu) (p := 30) (o := 31) (st := lsF B 1) (l := lsN B 1) (Or.inr ⟨rfl, rfl⟩) c S.rk.1 e1 y2 n1 c30 c30' l28 (by omega) (by omega)) ?_
    intro _ ρ1 c1
    have L1 := c1.lay
    have hit := fA_hit (A := B) (d := e) (nm := fun i => B 63 (lsF B 1 + i)) (l := lsN B 1) S.ok (by rw [hG]; exact cG)
    rw [hG] at hit
    obtain ⟨-, h1, h2⟩ := hit
    have exs : ∀ s i, ex (E s) e G i = ex B e G i := fun s i => by
      unfold ex hasA leafA pt nd
      rw [E36]
    have hkd : (nd B n 0 = 2 ∧ nd B x 0 = 2 ∧ nd B x 1 = 0) ∨ (nd B n 0 ≠ 2 ∧ nd B x 0 ≠ 2) := by
      have cm2 : ¬ mrS B n e x < 0 := cm
      unfold mrS at cm2
      by_cases a : nd B n 0 = 2
      · rw [if_pos a, bwE a cm, if_neg (by decide)] at cm2
        by_cases b : nd B x 0 = 2
        · rw [if_pos b] at cm2
          by_cases c : 0 < nd B x 1
          · rw [if_pos c] at cm2
            exact absurd (by decide) cm2
          · exact Or.inl ⟨a, b, by omega⟩
        · rw [if_neg b] at cm2
          exact absurd (by decide) cm2
      · rw [if_neg a] at cm2
        by_cases b : nd B x 0 = 2
        · rw [if_pos b] at cm2
          exact absurd (by decide) cm2
        · exact Or.inr ⟨a, b⟩
    have fx : ∀ s, _ := fun s => PH_rn1 (o := 31) (st := lsF B 1) (l := lsN B 1) (k2 := G) (x := x) (n := n) (d := d) (k := k) (e := e) (qs s).2.1 (qs s).2.2.1 d1 (by rw [nds]; exact d2) (by unfold eAll; rw [nds]; exact hk) (by rw [eNs]; exact hx) (by omega) e1 (by rw [nds]; exact e2) (by rw [(kE s).2]; exact cG) (by rw [eNs]; exact exG) (by omega) cx (fun y => by rw [bw_36 (E36 s)]; rw [nds] at y; exact bwE y cm) (by rw [nds, nds, nds]; exact hkd) (by decide) l1 l28 ch (by rw [exs, E36]; exact h1) (fun j hj => by rw [exs, E36, c31]; exact h2 j hj)
    -- the same at one of them, for the class's own steps
    obtain ⟨g1, g2, g3, g4, g5, g6, g7, g8⟩ := fx 0
    have fd : TF (putE (E 0) e G n) ∧ DI w (putE (E 0) e G n) ∧ ∀ m, m < 64 → nd (putE (E 0) e G n) m 0 = nd B m 0 := by
      have ad : add2 (E 0) e G (fun i => C 31 (lsF B 1 + i)) (lsN B 1) n = putE (E 0) e G n := add2_id (by rw [exs, E36]; exact h1) (fun j hj => by rw [exs, E36, c31]; exact h2 j hj)
      have := put_fx (nm := fun i => C 31 (lsF B 1 + i)) (l := lsN B 1) (n := n) (e := e) (k2 := G) (X := seE C e G 31 (lsF B 1) (lsN B 1) n) (qs 0).2.1 (by rw [ad]; exact g5) (qs 0).2.2.1.di (qs 0).2.2.1.tf e1 (by rw [nds]; exact e2) (by rw [(kE 0).2]; exact cG) n1 (by rw [nds]; exact n0) l1 l28
      rw [ad] at this
      exact ⟨this.1, this.2.1, fun m hm => by rw [this.2.2.2.1 m 0 hm (by omega), nds]⟩
    unfold J_X10_rename_168 J_X10_rename_189
    rw [ckC_0 L1]
    refine wp_bind (FC_good b0) (finishMove_c (fu := fu) hu c1 g5 fd.1 fd.2.1 n1 (by rw [fd.2.2 n n1]; exact n0) e1 (by rw [fd.2.2 e e1]; exact e2) d1 (by rw [fd.2.2 d d1]; exact d2) g4) ?_
    intro _ ρ2 c2
    have L2 := c2.lay
    show wp (FC b0) ρ2 (if nI x < 0 then _ else _) _
    rw [if_neg (neg_nI (by omega)), ckC_0 L2]
    have rE : ∀ s, rnE (rnP (rn1 (E s) n e (some x)) n e) d k (some x) = if nd (remA (rnP (putE (E s) e G n) n e) d k) x 0 = 2 then setN (remA (rnP (putE (E s) e G n) n e) d k) x 0 0 else loA (remA (rnP (putE (E s) e G n) n e) d k) x := fun s => by
      show (if nd (remA (rnP (putE (E s) e (kf (E s) e) n) n e) d k) x 0 = 2 then setN (remA (rnP (putE (E s) e (kf (E s) e) n) n e) d k) x 0 0 else loA (remA (rnP (putE (E s) e (kf (E s) e) n) n e) d k) x) = _
      rw [(kE s).1]
    by_cases x2d : nd B x 0 = 2
    · have k2 : nd (remA (rnP (putE (E 0) e G n) n e) d k) x 0 = 2 := by rw [g3 x 0 x1 (by omega) (by omega), nds]; exact x2d
      refine wp_bind (FC_good b0) (loseDir_c (fu := fu) hu c2 g1 x1 k2) ?_
      intro _ ρ3 c3
      refine wp_ret ((FC_good b0).1 _) (fun s => ?_)
      obtain ⟨i1, i2, i3, i4, i5, i6, i7, i8⟩ := fx s
      obtain ⟨j1, j2⟩ := i7 (by rw [nds]; exact x2d)
      rw [r2 s, if_neg cT, if_neg cm, rE s, if_pos (by rw [i3 x 0 x1 (by omega) (by omega), nds]; exact x2d), ← iz_n]
      exact QA_mem (Nat.le_succ _) (qs s) c3 j1 (PH_mono j2 (Nat.le_succ _)) (fun _ _ => rfl) (KR_t i2 KR_N) (KC_t (KC_t (KC_t KC_seE KC_pa) KC_rm) KC_dis) (ds s) (zE s)
    · have kx := (nd_k S.ok x1).1
      have x0 := (P.di.2.1 e G e1 e2 cG (by omega)).1
      rw [exG] at x0
      have N1 : 1 ≤ nd B x 2 := by
        have := (g8 (by rw [nds]; exact x2d)).1
        rw [nds] at this
        exact this
      have m8 : ∀ s, _ := fun s => (fx s).2.2.2.2.2.2.2 (by rw [nds]; exact x2d)
      have k2 : ∀ s i, i < 3 → i ≠ 1 → nd (remA (rnP (putE (E s) e G n) n e) d k) x i = nd B x i := fun s i a b => by rw [(fx s).2.2.1 x i x1 a b, nds]
      refine wp_bind (FC_good b0) (loseName_c (fu := fu) (N := nd B x 2 - 1) (E := setN (remA (rnP (putE (E 0) e G n) n e) d k) x 2 (nd (E 0) x 2 - 1)) hu c2 g1 (by have := (m8 0).2.1; rw [nds] at this ⊢; exact this) x1 (by rw [k2 0 0 (by omega) (by omega)]; omega) (by rw [k2 0 2 (by omega) (by omega)]; omega)) ?_
      intro _ ρ3 c3
      refine wp_ret ((FC_good b0).1 _) (fun s => ?_)
      obtain ⟨i1, i2, i3, i4, i5, i6, i7, i8⟩ := fx s
      obtain ⟨j0, j1, j2⟩ := m8 s
      have n2 : nd (E s) x 2 = nd B x 2 := nds s x 2
      have n20 : nd (E 0) x 2 = nd B x 2 := nds 0 x 2
      rw [n2] at j1 j2
      rw [n20] at c3
      have sN : ∀ i, i < 95 → nd (setN (remA (rnP (putE (E s) e G n) n e) d k) x 2 (nd B x 2 - 1)) x i = if i = 2 then nd B x 2 - 1 else nd (remA (rnP (putE (E s) e G n) n e) d k) x i := fun i hi => by
        unfold nd
        rw [sN_36]
        by_cases y : i = 2
        · rw [if_pos (by omega), if_pos y]
        · rw [if_neg (by omega), if_neg y]
      obtain ⟨o1, o2, o3⟩ := lo_fx (N := nd B x 2 - 1) j1 j2 x1 (by rw [sN 0 (by omega), if_neg (by decide), k2 s 0 (by omega) (by omega)]; omega) (by rw [sN 2 (by omega), if_pos rfl])
      have opE : ∀ s, opA (setN (remA (rnP (putE (E s) e G n) n e) d k) x 2 (nd B x 2 - 1)) x = opA B x := fun s => op_cg (fun i _ => by
        rw [setN_o (by decide) (by decide), (fx s).2.1.1 71 (by decide) (by decide) (by omega), (hE s).1 71 (by omega)])
      rw [opE 0] at c3
      rw [opE s] at o1
      have lE : loA (remA (rnP (putE (E s) e G n) n e) d k) x = mfA (setN (remA (rnP (putE (E s) e G n) n e) d k) x 2 (nd B x 2 - 1)) x := by
        unfold loA
        rw [k2 s 2 (by omega) (by omega)]
      rw [r2 s, if_neg cT, if_neg cm, rE s, if_neg (by rw [k2 s 0 (by omega) (by omega)]; exact x2d), lE, ← iz_n]
      exact QA_mem (Nat.le_succ _) (qs s) c3 o1 (PH_mono o2 (Nat.le_succ _)) (fun _ _ => rfl) (KR_t (KR_t i2 KR_N) o3) (KC_t (KC_t (KC_t KC_seE KC_pa) KC_rm) KC_lo) (ds s) (zE s)
  | none =>
    have cT : ¬ (none : Option Nat) = some n := fun y => by cases y
    have cG : ¬ G < eAll B e := fun y => by
      rw [if_pos y] at hT
      cases hT
    have xk : x2 = -1 := by rw [hx2, if_neg cG]
    show wp (FC b0) ρ (if (-1 : Int32) = nI n then _ else _) _
    rw [if_neg (fun y => by have := neg_nI (n := n) (by omega); rw [← y] at this; exact this (by decide)), ckC_0 L, refuseMove_c (fu := fu) hu c.ca S P ht n1 e1 e2 none (fun y z => by cases z), cll_some]
    by_cases cm : rnM B n e none < 0
    · rw [if_neg (fun y => by have := (iz_ge mb.1 mb.2).mp y; omega)]
      refine wp_ret ((FC_good b0).1 _) (fun s => ?_)
      rw [r2 s, if_neg cT, if_pos cm]
      exact id _ s
    have hl0 : lkA B e = false := by
      have cm2 : ¬ mrN B n e < 0 := cm
      cases hk2 : lkA B e with
      | false => rfl
      | true =>
        exfalso
        apply cm2
        unfold mrN lk0
        by_cases a : nd B n 0 = 2
        · rw [if_pos a, bwE a cm, hk2, if_neg (by decide), if_pos rfl]
          decide
        · rw [if_neg a, hk2, if_pos rfl]
          decide
    rw [if_pos ((iz_ge mb.1 mb.2).mpr (by omega)), xk, if_neg (show ¬ (0 : Int32) ≤ -1 by decide), ckC_0 L, osm_p (rfC_0_2 L), osm_p (rfC_0_8 L), ckC_18 L]
    obtain ⟨f1, f2⟩ := ff_t P e1 e2 ht
    have hf := ob_lk S P ht e1 e2 hl0
    refine wp_bind (FC_good b0) (addE_c (fu := fu) (v := 1) (n := n) (st := lsF B 1) (l := lsN B 1) (by omega) hu c S P.di e1 e2 f1 hf h34 n1 c30 c30' l28 (by omega)) ?_
    intro _ ρ1 c1
    have c1 : CM b0 ρ1 (adEn C e 31 (lsF B 1) (lsN B 1) n) D := c1
    have L1 := c1.lay
    have lkE : ∀ s, lkA (E s) e = false := fun s => by rw [(lk_cg (E36 s) (E49 s) (E35 s 7 (by decide) (by decide) (by decide)) e1).1]; exact hl0
    have fx : ∀ s, _ := fun s => PH_rn0 (o := 31) (st := lsF B 1) (l := lsN B 1) (n := n) (d := d) (k := k) (e := e) (qs s).2.1 (qs s).2.2.1 ht d1 (by rw [nds]; exact d2) (by unfold eAll; rw [nds]; exact hk) (by rw [eNs]; exact hx) (by omega) e1 (by rw [nds]; exact e2) (fun y => by rw [bw_36 (E36 s)]; rw [nds] at y; exact bwE y cm) (ob_lk (qs s).2.1 (qs s).2.2.1 ht e1 (by rw [nds]; exact e2) (lkE s)) (by rw [E35 s 34 (by decide) (by decide) (by decide)]; exact h34) (by unfold rwO; decide) l1 l28 ch
    obtain ⟨bi0, w0, g1, g2, g3, g4, g5, g6, g7⟩ := fx 0
    obtain ⟨bi2, w2, a1, a2, a3, a4, a5, a6, -⟩ := add_all (o := 31) (st := lsF B 1) (l := lsN B 1) (v := n) (qs 0).2.1 (qs 0).2.2.1.tf (qs 0).2.2.1.di e1 (by rw [nds]; exact e2) (by rw [(lk_cg (E36 0) (E49 0) (E35 0 7 (by decide) (by decide) (by decide)) e1).2.1]; exact f1) (ob_lk (qs 0).2.1 (qs 0).2.2.1 ht e1 (by rw [nds]; exact e2) (lkE 0)) (by rw [E35 0 34 (by decide) (by decide) (by decide)]; exact h34) (by unfold rwO; decide) l1 l28 ch n1 (by rw [nds]; exact n0)
    unfold J_X10_rename_168 J_X10_rename_189
    rw [ckC_0 L1]
    refine wp_bind (FC_good b0) (finishMove_c (fu := fu) hu c1 a1 a3 a4 n1 (by rw [a6 n 0 n1 (by omega) (by omega), nds]; exact n0) e1 (by rw [a6 e 0 e1 (by omega) (by omega), nds]; exact e2) d1 (by rw [a6 d 0 d1 (by omega) (by omega), nds]; exact d2) g5) ?_
    intro _ ρ2 c2
    show wp (FC b0) ρ2 (if (-1 : Int32) < 0 then _ else _) _
    rw [if_pos (by decide)]
    refine wp_ret ((FC_good b0).1 _) (fun s => ?_)
    obtain ⟨bi', w', i1, i2, i3, i4, -⟩ := fx s
    have ec : addA (E s) e (fun i => C 31 (lsF B 1 + i)) (lsN B 1) n = addA (E s) e (E s 67) (E s 35 53) n := by
      rw [h53 s]
      exact addA_cg (fun j hj => by rw [h67 s j hj]; exact c31 _)
    rw [ec] at i1 i3 i4
    rw [r2 s, if_neg cT, if_neg cm, ← iz_n]
    exact QA_mem (Nat.le_succ _) (qs s) c2 i1 i3 i2 i4 (KC_t (KC_t KC_ad KC_pa) KC_rm) (ds s) (zE s)
end RNN
