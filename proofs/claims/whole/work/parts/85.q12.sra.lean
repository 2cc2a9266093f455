/-! ===== PURE: a block got and put into a place, in both ===== -/
def tcC (A : tS) (n s : Nat) : Nat := if rs s then 2 + n / 2 else 34 + (slo A n (pa s) - 1)
def atC (C A : tS) (n s : Nat) (me : Bool) : tS := touC (up2 (gtC C n me) 11 (lcW A n s) (gpV C)) (tcC A n s)
def atA (A : tS) (n s : Nat) (me : Bool) : tS := up2 (up2 (getA A (ff A) me) 36 (lcA A n s) (ff A + 1)) 51 (nbA A (tcC A n s)) 1
section SRA
variable {bi : Nat → Nat} {w : Nat → Nat × Nat} {C A B : tS} {W V : Nat → Nat} {n s : Nat} {me : Bool}
theorem cn_sh {p q : Nat → Bool} (a : Nat) : ∀ m k, (∀ i, k ≤ i → i < k + m → p (a + i) = q i) → cn p (a + k) m = cn q k m
  | 0, _, _ => rfl
  | m + 1, k, h => by
    unfold cn
    rw [h k (Nat.le_refl _) (by omega), show a + k + 1 = a + (k + 1) by omega, cn_sh a m (k + 1) (fun i h1 h2 => h i (by omega) (by omega))]
theorem sr_sh {p q : Nat → Bool} (a : Nat) : ∀ m k, (∀ i, k ≤ i → i < k + m → p (a + i) = q i) → sr p (a + k) m = a + sr q k m
  | 0, _, _ => rfl
  | m + 1, k, h => by
    unfold sr
    rw [h k (Nat.le_refl _) (by omega), show a + k + 1 = a + (k + 1) by omega, sr_sh a m (k + 1) (fun i h1 h2 => h i (by omega) (by omega))]
    split <;> rfl
theorem st_fr (h : ZM bi w C A) {r : Nat} (hr : r < A 35 7) : (C 12 (34 + r) == 1) = frA A r := by
  rw [h.2.1 r hr]
  unfold frA
  by_cases c : A 36 (6080 + r * 274) = 0
  · rw [if_neg (fun q => q c), c]
    by_cases d : A 49 r = 0
    · rw [if_pos d, d]
      rfl
    · rw [if_neg d]
      by_cases e : A 49 r = 1
      · rw [if_pos e, e]
        have : (A 35 28 + 2 == 1) = false := by simp
        rw [this]
        rfl
      · rw [if_neg e]
        have h1 : (A 49 r == 1) = false := by simp [e]
        have h2 : (A 49 r == 0) = false := by simp [d]
        rw [h1, h2]
        rfl
  · rw [if_pos c]
    have h1 : (A 36 (6080 + r * 274) == 0) = false := by simp [c]
    rw [h1]
    rfl
theorem fre_c (hs : sk C) (h : ZM bi w C A) : C 10 9 = fre A := by
  rw [hs.1, h.1.1]
  unfold fre
  rw [show 34 + A 35 7 - 34 = A 35 7 by omega]
  exact cn_sh 34 (A 35 7) 0 (fun i _ hi => st_fr h (by omega))
theorem ff_c (h : ZM bi w C A) : ffC C = 34 + ff A := by
  unfold ffC ff
  rw [h.1.1, show 34 + A 35 7 - 34 = A 35 7 by omega]
  exact sr_sh 34 (A 35 7) 0 (fun i _ hi => st_fr h (by omega))
theorem tou_15 {c k : Nat} (h1 : 0 < c) (h2 : c < C 10 7) : touC C c 15 k = 0 ↔ k ≠ c ∧ C 15 k = 0 := by
  unfold touC
  by_cases e : C 15 c = 0
  · rw [if_pos ⟨h1, h2, e⟩, up2_o (by decide)]
    by_cases d : k = c
    · rw [d, up2_s]
      exact ⟨fun q => by omega, fun q => absurd rfl q.1⟩
    · rw [up2_j d]
      exact ⟨fun q => ⟨d, q⟩, fun q => q.2⟩
  · rw [if_neg (fun q => e q.2.2)]
    by_cases d : k = c
    · rw [d]
      exact ⟨fun q => absurd q e, fun q => absurd rfl q.1⟩
    · exact ⟨fun q => ⟨d, q⟩, fun q => q.2⟩
/-- the rows behind a get -/
theorem gt_rows {c : Nat} (hc : 34 ≤ c ∧ c < C 10 7) (h1 : 1 < C 10 7) : (∀ q, obC C c n me 11 q = if (c * 32 ≤ q ∧ q < c * 32 + 32) then 0 else if q = 32 + (c - 34) / 64 then setF (C 11 q) ((c - 34) % 64) 1 1 else C 11 q) ∧
    (∀ k, obC C c n me 12 k = if k = c then 0 else C 12 k) ∧ (∀ k, obC C c n me 13 k = if k = c then C 10 15 + 1 else C 13 k) ∧ (∀ k, obC C c n me 14 k = if k = c then n else C 14 k) ∧
    (∀ k, obC C c n me 15 k = 0 ↔ k ≠ 1 ∧ (me = true → k ≠ c) ∧ C 15 k = 0) ∧ (∀ p, p ≠ 10 → p ≠ 11 → p ≠ 12 → p ≠ 13 → p ≠ 14 → p ≠ 15 → obC C c n me p = C p) := by
  have oo : obC C c n me = if me = true then touC (touC (mrkC (ob1 C c n) c true) 1) c else touC (mrkC (ob1 C c n) c true) 1 := rfl
  have e11 : obC C c n me 11 = mrkC (ob1 C c n) c true 11 := by
    rw [oo]
    split
    · rw [tou_o (by decide) (by decide), tou_o (by decide) (by decide)]
    · rw [tou_o (by decide) (by decide)]
  have b11 : ∀ q, ob1 C c n 11 q = if c * 32 ≤ q ∧ q < c * 32 + 32 then 0 else C 11 q := by
    intro q
    unfold ob1 ldR
    by_cases d : c * 32 ≤ q ∧ q < c * 32 + 32
    · rw [if_pos ⟨rfl, d⟩, if_pos d]
    · rw [if_neg (fun z => d z.2), if_neg d, ado_o (by decide) (by decide) (by decide), up2_o (by decide), up2_o (by decide), up2_o (by decide)]
  have cond : 34 ≤ c ∧ c < up2 (up2 (up2 C 10 14 c) 10 9 (C 10 9 - 1)) 10 15 (C 10 15 + 1) 10 7 := by
    rw [up2_j (by decide), up2_j (by decide), up2_j (by decide)]
    exact hc
  refine ⟨fun q => ?_, fun k => by rw [ob_row (by decide) (by decide) (by decide), ob1_12 hc], fun k => ?_, fun k => ?_, fun k => ?_, fun p p0 p1 p2 p3 p4 p5 => ?_⟩
  · rw [e11]
    unfold mrkC
    by_cases d : q = 32 + (c - 34) / 64
    · rw [d, up2_s, if_neg (by omega), if_pos rfl, b11, if_neg (by omega)]
      rfl
    · rw [up2_j d, b11, if_neg d]
  · rw [ob_row (by decide) (by decide) (by decide)]
    unfold ob1
    rw [ldR_o (by decide)]
    unfold adoC
    rw [if_pos cond, up2_o (by decide)]
    by_cases d : k = c
    · rw [d, up2_s, if_pos rfl]
    · rw [up2_j d, up2_o (by decide), if_neg d, up2_o (by decide), up2_o (by decide), up2_o (by decide)]
  · rw [ob_row (by decide) (by decide) (by decide)]
    unfold ob1
    rw [ldR_o (by decide)]
    unfold adoC
    rw [if_pos cond]
    by_cases d : k = c
    · rw [d, up2_s, if_pos rfl]
    · rw [up2_j d, up2_o (by decide), up2_o (by decide), if_neg d, up2_o (by decide), up2_o (by decide), up2_o (by decide)]
  · have m7 : mrkC (ob1 C c n) c true 10 7 = C 10 7 := by rw [mrk_o (by decide), ob1_10 (by decide) (by decide) (by decide)]
    have m15 : mrkC (ob1 C c n) c true 15 k = C 15 k := by rw [mrk_o (by decide), ob1_o (by decide) (by decide) (by decide) (by decide) (by decide)]
    have t1 : touC (mrkC (ob1 C c n) c true) 1 15 k = 0 ↔ k ≠ 1 ∧ C 15 k = 0 := by
      rw [tou_15 (by omega) (by rw [m7]; exact h1), m15]
    rw [oo]
    cases me with
    | true =>
      rw [if_pos rfl, tou_15 (by omega) (by rw [tou_10 (by decide), m7]; exact hc.2), t1]
      exact ⟨fun q => ⟨q.2.1, fun _ => q.1, q.2.2⟩, fun q => ⟨q.2.1 rfl, q.1, q.2.2⟩⟩
    | false =>
      rw [if_neg (by decide), t1]
      exact ⟨fun q => ⟨q.1, fun z => (by cases z), q.2⟩, fun q => ⟨q.1, q.2.2⟩⟩
  · rw [ob_row p0 p1 p5, ob1_o p0 p1 p2 p3 p4]
/-- the reference's rows behind a get -/
theorem gA_rows {r : Nat} : (∀ j, getA A r me 36 j = if j = 6080 + r * 274 then 1 else if j = 6080 + r * 274 + 1 then A 35 34 + 1 else A 36 j) ∧
    (∀ q, getA A r me 47 q = if 256 * r ≤ q ∧ q < 256 * r + 256 then 0 else A 47 q) ∧ (∀ q, getA A r me 48 q = if q = r then 0 else A 48 q) ∧
    (∀ b, getA A r me 51 b = 0 ↔ b ≠ 1 ∧ (me = true → b ≠ 34 + A 35 6 + r) ∧ A 51 b = 0) ∧ (∀ q, getA A r me 35 q = if q = 34 then A 35 34 + 1 else A 35 q) ∧
    (∀ p, p ≠ 35 → p ≠ 36 → p ≠ 47 → p ≠ 48 → p ≠ 51 → getA A r me p = A p) := by
  have key : ∀ (X : tS) (p q : Nat), up2 (fl 47 0 (256 * r) 256 X) 48 r 0 p q = if p = 48 ∧ q = r then 0 else if p = 47 ∧ 256 * r ≤ q ∧ q < 256 * r + 256 then 0 else X p q := by
    intro X p q
    by_cases c : p = 48 ∧ q = r
    · rw [if_pos c, c.1, c.2, up2_s]
    · rw [if_neg c]
      by_cases d : p = 48
      · rw [d, up2_j (fun e => c ⟨d, e⟩), fl_at]
      · rw [up2_o d, fl_at]
  have k36 : ∀ j, up2 (up2 A 36 (6080 + r * 274) 1) 36 (6080 + r * 274 + 1) (A 35 34 + 1) 36 j = if j = 6080 + r * 274 then 1 else if j = 6080 + r * 274 + 1 then A 35 34 + 1 else A 36 j := by
    intro j
    by_cases c : j = 6080 + r * 274 + 1
    · rw [c, up2_s, if_neg (by omega), if_pos rfl]
    · rw [up2_j c, if_neg c]
      by_cases d : j = 6080 + r * 274
      · rw [d, up2_s, if_pos rfl]
      · rw [up2_j d, if_neg d]
  have k35 : ∀ q, up2 A 35 34 (A 35 34 + 1) 35 q = if q = 34 then A 35 34 + 1 else A 35 q := by
    intro q
    by_cases c : q = 34
    · rw [c, up2_s, if_pos rfl]
    · rw [up2_j c, if_neg c]
  have k51 : ∀ b, up2 A 51 1 1 51 b = 0 ↔ b ≠ 1 ∧ A 51 b = 0 := by
    intro b
    by_cases c : b = 1
    · rw [c, up2_s]
      exact ⟨fun q => by omega, fun q => absurd rfl q.1⟩
    · rw [up2_j c]
      exact ⟨fun q => ⟨c, q⟩, fun q => q.2⟩
  unfold getA
  cases me with
  | true =>
    refine ⟨fun j => ?_, fun q => ?_, fun q => ?_, fun b => ?_, fun q => ?_, fun p p0 p1 p2 p3 p4 => ?_⟩
    · rw [key, if_neg (by omega), if_neg (by omega), cond_true, up2_o (by decide), up2_o (by decide), ← k36]
      show up2 (up2 (up2 A 35 34 (A 35 34 + 1)) 36 _ _) 36 _ _ 36 j = _
      by_cases c : j = 6080 + r * 274 + 1
      · rw [c, up2_s, up2_s]
      · rw [up2_j c, up2_j c]
        by_cases d : j = 6080 + r * 274
        · rw [d, up2_s, up2_s]
        · rw [up2_j d, up2_j d, up2_o (by decide)]
    · rw [key, if_neg (by omega), cond_true]
      by_cases d : 256 * r ≤ q ∧ q < 256 * r + 256
      · rw [if_pos ⟨rfl, d⟩, if_pos d]
      · rw [if_neg (fun z => d z.2), if_neg d, up2_o (by decide), up2_o (by decide), up2_o (by decide), up2_o (by decide), up2_o (by decide)]
    · rw [key, cond_true]
      by_cases d : q = r
      · rw [if_pos ⟨rfl, d⟩, if_pos d]
      · rw [if_neg (fun z => d z.2), if_neg (by omega), if_neg d, up2_o (by decide), up2_o (by decide), up2_o (by decide), up2_o (by decide), up2_o (by decide)]
    · rw [key, if_neg (by omega), if_neg (by omega), cond_true]
      by_cases c : b = 34 + A 35 6 + r
      · rw [c, up2_s]
        exact ⟨fun q => by omega, fun q => absurd rfl (q.2.1 rfl)⟩
      · rw [up2_j c]
        by_cases d : b = 1
        · rw [d, up2_s]
          exact ⟨fun q => by omega, fun q => absurd rfl q.1⟩
        · rw [up2_j d, up2_o (by decide), up2_o (by decide), up2_o (by decide)]
          exact ⟨fun q => ⟨d, fun _ => c, q⟩, fun q => q.2.2⟩
    · rw [key, if_neg (by omega), if_neg (by omega), cond_true, up2_o (by decide), up2_o (by decide), up2_o (by decide), up2_o (by decide), k35]
    · funext q
      rw [key, if_neg (by omega), if_neg (by omega), cond_true, up2_o p4, up2_o p4, up2_o p1, up2_o p1, up2_o p0]
  | false =>
    refine ⟨fun j => ?_, fun q => ?_, fun q => ?_, fun b => ?_, fun q => ?_, fun p p0 p1 p2 p3 p4 => ?_⟩
    · rw [key, if_neg (by omega), if_neg (by omega), cond_false, up2_o (by decide), ← k36]
      by_cases c : j = 6080 + r * 274 + 1
      · rw [c, up2_s, up2_s]
      · rw [up2_j c, up2_j c]
        by_cases d : j = 6080 + r * 274
        · rw [d, up2_s, up2_s]
        · rw [up2_j d, up2_j d, up2_o (by decide)]
    · rw [key, if_neg (by omega), cond_false]
      by_cases d : 256 * r ≤ q ∧ q < 256 * r + 256
      · rw [if_pos ⟨rfl, d⟩, if_pos d]
      · rw [if_neg (fun z => d z.2), if_neg d, up2_o (by decide), up2_o (by decide), up2_o (by decide), up2_o (by decide)]
    · rw [key, cond_false]
      by_cases d : q = r
      · rw [if_pos ⟨rfl, d⟩, if_pos d]
      · rw [if_neg (fun z => d z.2), if_neg (by omega), if_neg d, up2_o (by decide), up2_o (by decide), up2_o (by decide), up2_o (by decide)]
    · rw [key, if_neg (by omega), if_neg (by omega), cond_false]
      by_cases d : b = 1
      · rw [d, up2_s]
        exact ⟨fun q => by omega, fun q => absurd rfl q.1⟩
      · rw [up2_j d, up2_o (by decide), up2_o (by decide), up2_o (by decide)]
        exact ⟨fun q => ⟨d, fun z => (by cases z), q⟩, fun q => q.2.2⟩
    · rw [key, if_neg (by omega), if_neg (by omega), cond_false, up2_o (by decide), up2_o (by decide), up2_o (by decide), k35]
    · funext q
      rw [key, if_neg (by omega), if_neg (by omega), cond_false, up2_o p4, up2_o p1, up2_o p1, up2_o p0]
end SRA
