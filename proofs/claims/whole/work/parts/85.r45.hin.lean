/-! ===== PURE: handles lead to files; what has no name is held ===== -/
/-- the nodes' kinds and names stay, and the handles -/
def KWn (A B : tS) : Prop := (∀ m, m < 64 → nd B m 0 = nd A m 0 ∧ nd B m 2 = nd A m 2) ∧ B 71 = A 71
def HN (A : tS) : Prop := ∀ n, n < 64 → (nd A n 0 = 1 ∨ nd A n 0 = 3) → nd A n 2 = 0 → opA A n = true
def HI (A : tS) : Prop := HO A ∧ HN A
section HIN
variable {bi : Nat → Nat} {w : Nat → Nat × Nat} {C X A B E Y : tS} {t n m k d r i l v x s sz a e h : Nat} {me : Bool}
theorem op_iff : opA A n = true ↔ ∃ h, h < 16 ∧ A 71 h = n + 1 := by
  unfold opA
  rw [decide_eq_true_iff]
  constructor
  · intro q
    have := sr_is (fun h => A 71 h == n + 1) 16 0 (by omega)
    exact ⟨_, q, by simpa using this⟩
  · rintro ⟨h, h1, h2⟩
    exact sr_hit h1 (by simpa using h2)
theorem KWn_r : KWn A A := ⟨fun _ _ => ⟨rfl, rfl⟩, rfl⟩
theorem KWn_t (h : KWn A B) (g : KWn B E) : KWn A E := ⟨fun m a => ⟨by rw [(g.1 m a).1, (h.1 m a).1], by rw [(g.1 m a).2, (h.1 m a).2]⟩, by rw [g.2, h.2]⟩
theorem KWn_j (h : ∀ m, m < 64 → B 36 (m * 95 + 0) = A 36 (m * 95 + 0) ∧ B 36 (m * 95 + 2) = A 36 (m * 95 + 2)) (h71 : B 71 = A 71) : KWn A B := ⟨h, h71⟩
theorem KWn_p (h : KP A B) : KWn A B := KWn_j (fun m a => ⟨h.1 _ (by omega), h.1 _ (by omega)⟩) (h.2.1 71 (by decide) (by decide) (by omega))
theorem KWn_e (h36 : B 36 = A 36) (h71 : B 71 = A 71) : KWn A B := KWn_j (fun m _ => by rw [h36]; exact ⟨rfl, rfl⟩) h71
theorem KWn_N (hn : n < 64) (hx : x ≠ 0) (h2 : x ≠ 2) (h95 : x < 95) : KWn A (setN A n x v) := KWn_j (fun m hm => ⟨by rw [sN_36, if_neg (by omega)], by rw [sN_36, if_neg (by omega)]⟩) (by
  funext j
  exact setN_o (by decide) (by decide))
theorem KWn_pE : KWn A (putE A d k v) := by
  unfold putE ex
  exact KWn_j (fun m hm => ⟨by rw [up2_o (by decide), up2_j (by omega)], by rw [up2_o (by decide), up2_j (by omega)]⟩) (by rw [up2_rown (by decide), up2_rown (by decide)])
theorem KWn_x {j : Nat} : KWn A (up2 A 36 (ex A d k j) v) := by
  unfold ex
  exact KWn_j (fun m hm => ⟨by rw [up2_j (by omega)], by rw [up2_j (by omega)]⟩) (up2_rown (by decide))
theorem KWn_nm {nm : Nat → Nat} : ∀ m i (A : tS), KWn A (nmL d k nm m i A)
  | 0, _, _ => KWn_r
  | m + 1, i, A => KWn_t KWn_x (KWn_nm m (i + 1) _)
theorem KWn_add {nm : Nat → Nat} (hd : d < 64) (hi : ffA A d / 8 < 1064) : KWn A (addA A d nm m v) := by
  have e1 : KWn A (add1 A d) := by
    unfold add1
    split
    · exact KWn_t (KWn_p (KP_ens hd hi)) (KWn_p (KP_N hd (Or.inl rfl)))
    · exact KWn_r
  unfold addA add2
  exact KWn_t e1 (KWn_t (KWn_t KWn_x (KWn_nm _ _ _)) KWn_pE)
theorem KWn_rl (hd : d < 64) : ∀ m (A : tS), m ≤ 1064 → KWn A (remL d m A)
  | 0, _, _ => KWn_r
  | m + 1, A, hm => by
    show KWn A (if bareA A d m = true then remL d m (setN (dropA A d m) d 1 (256 * m)) else A)
    split
    · exact KWn_t (KWn_t (KWn_p (KP_drop hd (by omega))) (KWn_p (KP_N hd (Or.inl rfl)))) (KWn_rl hd m _ (by omega))
    · exact KWn_r
theorem KWn_rem (hd : d < 64) (hs : nd A d 1 ≤ 272384) : KWn A (remA A d k) := by
  unfold remA
  refine KWn_t KWn_pE (KWn_rl hd _ _ ?_)
  have : nd (putE A d k 64) d 1 = nd A d 1 := by
    unfold putE ex nd
    rw [up2_o (by decide), up2_j (by omega)]
  rw [this]
  omega
theorem KWn_wa : KWn B (wa1 B v s) := KWn_e (wa1_36 B) (wa1_o B (by decide) (by decide))
theorem op_71 (h : B 71 = A 71) : opA B n = opA A n := by
  unfold opA
  rw [h]
/-- one node alone is other -/
theorem HI_of (h : HI B) (h71 : E 71 = B 71) (hm : ∀ m, m < 64 → m ≠ x → nd E m 0 = nd B m 0 ∧ nd E m 2 = nd B m 2) (hx1 : opA B x = true → x < 64 → nd B x 0 = 1 → nd E x 0 = 1) (hx2 : x < 64 → (nd E x 0 = 1 ∨ nd E x 0 = 3) → nd E x 2 = 0 → opA B x = true) : HI E := by
  obtain ⟨h1, h2⟩ := h
  refine ⟨fun g hg y => ?_, fun n hn k z => ?_⟩
  · rw [h71] at y ⊢
    obtain ⟨q1, q2⟩ := h1 g hg y
    refine ⟨q1, ?_⟩
    by_cases c : B 71 g - 1 = x
    · rw [c]
      rw [c] at q1 q2
      exact hx1 (op_iff.mpr ⟨g, hg, by omega⟩) q1 q2
    · rw [(hm _ q1 c).1]
      exact q2
  · rw [op_71 h71]
    by_cases c : n = x
    · rw [c] at k z hn ⊢
      exact hx2 hn k z
    · rw [(hm n hn c).1] at k
      rw [(hm n hn c).2] at z
      exact h2 n hn k z
theorem HI_kw (h : HI B) (k : KWn B E) : HI E := HI_of (x := 64) h k.2 (fun m hm _ => k.1 m hm) (fun _ q _ => by omega) (fun q _ _ => by omega)
theorem HO_op (h : HI B) (o : opA B x = true) : nd B x 0 = 1 := by
  obtain ⟨g, g1, g2⟩ := op_iff.mp o
  have := (h.1 g g1 (by omega)).2
  rw [show B 71 g - 1 = x by omega] at this
  exact this
/-- a name is lost -/
theorem HI_lo (h : HI B) (k : KWn B Y) (hx : x < 64) (hs : nd Y x 1 ≤ 272384) : HI (loA Y x) := by
  unfold loA mfA
  have o1 : opA (setN Y x 2 (nd Y x 2 - 1)) x = opA B x := op_71 (by
    rw [← k.2]
    funext j
    exact setN_o (by decide) (by decide))
  have w : ∀ m i, m < 64 → i < 95 → ¬ (m = x ∧ i = 2) → nd (setN Y x 2 (nd Y x 2 - 1)) m i = nd Y m i := fun m i a b c => by
    unfold nd
    rw [sN_36, if_neg (by omega)]
  have r71 : setN Y x 2 (nd Y x 2 - 1) 71 = B 71 := by
    rw [← k.2]
    funext j
    exact setN_o (by decide) (by decide)
  by_cases c : 0 < nd (setN Y x 2 (nd Y x 2 - 1)) x 2 ∨ opA (setN Y x 2 (nd Y x 2 - 1)) x = true
  · rw [if_pos c]
    refine HI_of (x := x) h r71 (fun m hm q => ⟨by rw [w m 0 hm (by omega) (by omega), (k.1 m hm).1], by rw [w m 2 hm (by omega) (by omega), (k.1 m hm).2]⟩) (fun _ _ q => by rw [w x 0 hx (by omega) (by omega), (k.1 x hx).1]; exact q) (fun _ _ q => ?_)
    rw [o1] at c
    rcases c with c | c
    · omega
    · exact c
  · rw [if_neg c]
    have co : ¬ opA B x = true := fun q => c (Or.inr (by rw [o1]; exact q))
    generalize hZ : setN Y x 2 (nd Y x 2 - 1) = Z at *
    have kp : KP Z (if nd Z x 0 = 1 then szA Z x 0 else Z) := by
      split
      · exact KP_sz hx (by rw [w x 1 hx (by omega) (by omega)]; exact hs)
      · exact KP_r
    generalize (if nd Z x 0 = 1 then szA Z x 0 else Z) = V at kp
    have kv := KWn_p kp
    have w2 : ∀ m i, m < 64 → i < 95 → ¬ (m = x ∧ i = 0) → nd (setN V x 0 0) m i = nd V m i := fun m i a b c => by
      unfold nd
      rw [sN_36, if_neg (by omega)]
    have z0 : nd (setN V x 0 0) x 0 = 0 := by
      unfold nd
      rw [sN_36, if_pos rfl]
    refine HI_of (x := x) h ?_ (fun m hm q => ⟨by rw [w2 m 0 hm (by omega) (by omega), (kv.1 m hm).1, w m 0 hm (by omega) (by omega), (k.1 m hm).1], by rw [w2 m 2 hm (by omega) (by omega), (kv.1 m hm).2, w m 2 hm (by omega) (by omega), (k.1 m hm).2]⟩) (fun q _ _ => absurd q co) (fun _ q _ => by rw [z0] at q; omega)
    rw [← r71, ← kv.2]
    funext j
    exact setN_o (by decide) (by decide)
/-- a directory is freed -/
theorem HI_fd (h : HI B) (k : KWn B Y) (hx : x < 64) (h2 : nd B x 0 = 2) : HI (setN Y x 0 0) := by
  have w2 : ∀ m i, m < 64 → i < 95 → ¬ (m = x ∧ i = 0) → nd (setN Y x 0 0) m i = nd Y m i := fun m i a b c => by
    unfold nd
    rw [sN_36, if_neg (by omega)]
  have z0 : nd (setN Y x 0 0) x 0 = 0 := by
    unfold nd
    rw [sN_36, if_pos rfl]
  refine HI_of (x := x) h ?_ (fun m hm q => ⟨by rw [w2 m 0 hm (by omega) (by omega), (k.1 m hm).1], by rw [w2 m 2 hm (by omega) (by omega), (k.1 m hm).2]⟩) (fun q _ _ => by have := HO_op h q; omega) (fun _ q _ => by rw [z0] at q; omega)
  rw [← k.2]
  funext j
  exact setN_o (by decide) (by decide)
theorem HI_ul (h : HI B) (S : SR bi w C B) (P : PH t w B) : HI (hdX B 0 s ulG).2 := by
  obtain ⟨a1, a2, a3⟩ := wa_bd (w := 0) S.ok
  have hw := HI_kw h (KWn_wa (v := 0) (s := s))
  unfold hdX
  split
  · exact hw
  · split
    · exact hw
    · rename_i c1 c2
      have d1 : (waA B 0).toNat < 64 := by omega
      have d2 := a3 (by omega)
      generalize (waA B 0).toNat = d at *
      have S1 : SR bi w C (wa1 B 0 s) := SR_oth S (fun _ _ _ => rfl) (fun o ho => wa1_o B (by omega) (by omega)) (fun q hq => by
        unfold wa1
        rw [up2_j (by omega), cp67_o (by decide), up2_j (by omega)])
      have P1 : PH t w (wa1 B 0 s) := PH_good t w B _ (wa1_36 B) (wa1_7 B) P
      have d2' : nd (wa1 B 0 s) d 0 = 2 := by
        unfold nd
        rw [wa1_36]
        exact d2
      generalize wa1 B 0 s = A at *
      have b1 := (nd_k S1.ok d1).2.1
      unfold ulG
      split
      · exact hw
      · split
        · exact hw
        · rename_i hk hk2
          have hk : kf A d < eAll A d := by omega
          have n1 : eN A d (kf A d) < 64 := eN_f S1.ok (by unfold kf at hk; omega)
          have n0 := (P1.di.2.1 d _ d1 d2' hk (by omega)).1
          have kb := (nd_k S1.ok n1).1
          obtain ⟨f1, f2, f3, ⟨f4, f5, f6⟩, f7⟩ := PH_unl (k := kf A d) (x := eN A d (kf A d)) S1 P1 d1 d2' hk rfl (by omega) (by omega)
          have b2 := (nd_k f7.ok n1).2.1
          exact HI_lo hw (KWn_rem (A := A) (d := d) (k := kf A d) d1 (by omega)) n1 (by omega)
theorem HI_rd (h : HI B) (S : SR bi w C B) : HI (hdX B 0 s rdG).2 := by
  obtain ⟨a1, a2, a3⟩ := wa_bd (w := 0) S.ok
  have hw := HI_kw h (KWn_wa (v := 0) (s := s))
  unfold hdX
  split
  · exact hw
  · split
    · exact hw
    · rename_i c1 c2
      have d1 : (waA B 0).toNat < 64 := by omega
      generalize (waA B 0).toNat = d at *
      have b1 := (nd_k S.ok d1).2.1
      have e1 : nd (wa1 B 0 s) d 1 = nd B d 1 := by
        unfold nd
        rw [wa1_36]
      have okw : okT (wa1 B 0 s) := by
        unfold okT
        rw [wa1_36]
        exact S.ok
      generalize wa1 B 0 s = A at *
      unfold rdG
      split
      · exact hw
      · split
        · exact hw
        · split
          · exact hw
          · rename_i hk hk2 hk3
            have n1 : eN A d (kf A d) < 64 := eN_f okw (by unfold kf at hk; omega)
            have kw := KWn_rem (A := A) (d := d) (k := kf A d) d1 (by omega)
            exact HI_fd hw kw n1 (Classical.byContradiction hk2)
end HIN
