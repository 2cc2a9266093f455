/-! ===== PURE: what sync, fsync, fdatasync, post, writeBack, apply leave ===== -/
def XS (z : Bool) (a c m : Nat) (A B : tS) : Prop := ∀ K, dsk A (K + m) → dsk B K ∧ (∀ o, o ≠ 35 → o ≠ 48 → o ≠ 49 → o ≠ 72 → ¬ (z = true ∧ 50 ≤ o ∧ o ≤ 52) → (o < 39 ∨ 46 < o) → B o = A o) ∧ (∀ q, q = 6 ∨ q = 7 ∨ q = 57 → B 35 q = A 35 q) ∧ (A 35 34 ≤ B 35 34 ∧ B 35 34 ≤ A 35 34 + a) ∧ (A 35 28 ≤ B 35 28 ∧ B 35 28 ≤ A 35 28 + c)
def oWd (X : (Nat × tS) ⊕ tS) : tS := match X with | .inl p => p.2 | .inr B => B
/-- nothing is other but on the disk; a commit; power that fails in one -/
def GVo (m : Nat) (A : tS) (J : tJ) (B : tS) (J' : tJ) : Prop := ∃ z, XS z 1 1 m A B ∧ JN (tcA A + rcA A) (A 36) J J' ∧ ((z = false ∧ (JM J J' ∨ B 35 0 = 1)) ∨ ((∀ b, b < 6200 → B 51 b = 0 ∧ B 52 b = 0) ∧ ∀ n, n < 64 → B 50 n = 0))
section GVS
variable {Φ : tPh} {b0 : Nat} {σ : tM} {bi sp : Nat → Nat} {w : Nat → Nat × Nat} {C : tS} {D : tD} {A B E : tS} {J J' J2 : tJ} {K t un n N a a' c c' m m' d most : Nat} {z z' : Bool}
theorem XS_of (h : XR z a c m A B) : XS z a c m A B := fun K k => by
  obtain ⟨x1, x2, x3, x4, x5⟩ := h K k
  exact ⟨x1, fun o p _ q _ r v => x2 o p q r v, fun q hq => x3 q (by omega), x4, x5⟩
theorem XS_t (h : XS z a c m A B) (g : XS z' a' c' m' B E) : XS (z || z') (a + a') (c + c') (m + m') A E := fun K d => by
  obtain ⟨h1, h2, h3, h4, h5⟩ := h (K + m') (by rw [show K + m' + m = K + (m + m') by omega]; exact d)
  obtain ⟨g1, g2, g3, g4, g5⟩ := g K h1
  exact ⟨g1, fun o x x' y y' u v => by rw [g2 o x x' y y' (fun k => u ⟨by rw [k.1, Bool.or_true], k.2⟩) v, h2 o x x' y y' (fun k => u ⟨by rw [k.1, Bool.true_or], k.2⟩) v], fun q x => by rw [g3 q x, h3 q x], ⟨by omega, by omega⟩, by omega, by omega⟩
theorem XS_le (h : XS z a c m A B) (h1 : a ≤ a') (h2 : c ≤ c') (h3 : m ≤ m') : XS z a' c' m' A B := fun K d => by
  obtain ⟨x1, x2, x3, x4, x5⟩ := h K (dsk_le d (by omega))
  exact ⟨x1, x2, x3, ⟨by omega, by omega⟩, by omega, by omega⟩
theorem XS_row {o : Nat} (h : o = 48 ∨ o = 72) (hr : ∀ p, p ≠ o → B p = A p) : XS false 0 0 0 A B := fun K d => by
  have e35 : B 35 = A 35 := hr 35 (by omega)
  exact ⟨dsk_cg d (fun q _ => by rw [e35]) (hr 42 (by omega)) (hr 43 (by omega)), fun p _ y1 _ y2 _ _ => hr p (by omega), fun q _ => by rw [e35], ⟨by rw [e35]; exact Nat.le_refl _, by rw [e35]; exact Nat.le_refl _⟩, by rw [e35]; exact Nat.le_refl _, by rw [e35]; exact Nat.le_refl _⟩
theorem XS_0 {v : Nat} : XS false 0 0 0 A (up2 A 35 0 v) := fun K d => ⟨dsk_scr d sC_0, fun o h _ _ _ _ _ => up2_rown h, fun q hq => up2_j (by omega), ⟨by rw [up2_j (by decide)]; exact Nat.le_refl _, by rw [up2_j (by decide)]; exact Nat.le_refl _⟩, by rw [up2_j (by decide)]; exact Nat.le_refl _, by rw [up2_j (by decide)]; exact Nat.le_refl _⟩
theorem XS_f {v : Nat} (h : XS z a c m A B) : XS z a c m A (up2 B 35 0 v) := by
  have := XS_t h (XS_0 (A := B) (v := v))
  rw [Bool.or_false] at this
  exact this
theorem XS_r : XS false 0 0 0 A A := XS_of XR_r
theorem XS_wdL : ∀ m k d (A : tS), k + m ≤ A 35 7 → XS false 0 0 m A (oWd (wdL most m k d A)) := by
  intro m
  induction m with
  | zero =>
    intro k d A _
    exact XS_r
  | succ m ih =>
    intro k d A hk
    have lx : wdL most (m + 1) k d A = if most ≤ d then .inl (d, A) else if A 72 k = 0 ∨ A 48 k = 0 then wdL most m (k + 1) d A else (match verX A (34 + A 35 6 + k) 3 (A 36 (6080 + k * 274 + 1)) with | .inl B => wdL most m (k + 1) (d + 1) (up2 B 48 k 0) | .inr B => .inr B) := rfl
    rw [lx]
    by_cases c1 : most ≤ d
    · rw [if_pos c1]
      exact XS_le XS_r (Nat.le_refl _) (Nat.le_refl _) (Nat.zero_le _)
    rw [if_neg c1]
    by_cases c2 : A 72 k = 0 ∨ A 48 k = 0
    · rw [if_pos c2]
      exact XS_le (ih (k + 1) d A (by omega)) (Nat.le_refl _) (Nat.le_refl _) (Nat.le_succ _)
    rw [if_neg c2]
    have f := XR_ver (A := A) (b := 34 + A 35 6 + k) (wh := 3) (id := A 36 (6080 + k * 274 + 1)) (fun _ => by omega) (fun _ => by omega)
    cases e : verX A (34 + A 35 6 + k) 3 (A 36 (6080 + k * 274 + 1)) with
    | inr B =>
      rw [e, oX_r] at f
      exact XS_le (XS_of f) (Nat.le_refl _) (Nat.le_refl _) (by omega)
    | inl B =>
      rw [e, oX_l] at f
      show XS false 0 0 (m + 1) A (oWd (wdL most m (k + 1) (d + 1) (up2 B 48 k 0)))
      intro K q
      have g := XS_t (XS_of f) (XS_row (A := B) (B := up2 B 48 k 0) (o := 48) (Or.inl rfl) (fun p hp => up2_rown hp))
      have e7 := (g (K + m) (by rw [show K + m + (1 + 0) = K + (m + 1) by omega]; exact q)).2.2.1 7 (by omega)
      have r := ih (k + 1) (d + 1) (up2 B 48 k 0) (by rw [e7]; omega)
      exact XS_t g r K (by rw [show K + (1 + 0 + m) = K + (m + 1) by omega]; exact q)
theorem XS_wd {q : Option Nat} (h7 : A 35 7 ≤ 2000) : XS false 0 0 2000 A (oWd (wdX q most A)) := by
  unfold wdX
  have f := wdI_f (A := A) (o := q)
  have g : XS false 0 0 0 A (wdI q A) := XS_row (o := 72) (Or.inr rfl) f
  have e7 : wdI q A 35 7 = A 35 7 := by rw [f 35 (by decide)]
  exact XS_le (XS_t g (XS_wdL (most := most) (A 35 7) 0 0 (wdI q A) (by omega))) (Nat.le_refl _) (Nat.le_refl _) (by omega)
theorem JM_JN {x : Nat} {s : Nat → Nat} (h : JN x s J J') (g : JM J' J2) : JN x s J J2 := ⟨Nat.le_trans g.1 h.1, fun p q y => by
  obtain ⟨p', y⟩ := g.2 p q y
  exact h.2 p' q y⟩
theorem GVo_1 (h : XS false 0 0 m A B) (j : JM J J') : GVo m A J B J' := ⟨false, XS_le h (by omega) (by omega) (Nat.le_refl _), JN_m j, Or.inl ⟨rfl, Or.inl j⟩⟩
/-- first only the disk -/
theorem GVo_pre (hd : dsk A m) (h : XS false 0 0 m A B) (g : GVo m' B J E J') : GVo (m + m') A J E J' := by
  obtain ⟨z, g1, g2, g3⟩ := g
  obtain ⟨-, r, -⟩ := h 0 (by rw [Nat.zero_add]; exact hd)
  have t1 : tcA B = tcA A := by
    unfold tcA
    rw [r 51 (by decide) (by decide) (by decide) (by decide) (fun k => by cases k.1) (by omega)]
  have t2 : rcA B = rcA A := by
    unfold rcA
    rw [r 52 (by decide) (by decide) (by decide) (by decide) (fun k => by cases k.1) (by omega)]
  have e36 : B 36 = A 36 := r 36 (by decide) (by decide) (by decide) (by decide) (fun k => by cases k.1) (by omega)
  rw [t1, t2, e36] at g2
  have x := XS_t h g1
  rw [Bool.false_or] at x
  exact ⟨z, XS_le x (by omega) (by omega) (Nat.le_refl _), g2, g3⟩
theorem cm1_51 {sz : Nat} {s : tP} (h : cm1X A J sz un = .inl s) : ∀ b, b < 6200 → s.1 51 b = 0 ∧ s.1 52 b = 0 := by
  have r : ∀ l m k (Y : tS), (∀ o, o ≠ 49 → rtc l k m Y o = Y o) := by
    intro l m
    induction m with
    | zero =>
      intro k Y o _
      rfl
    | succ m ih =>
      intro k Y o ho
      show rtc l (k + 1) m (if Y 49 k = 1 then up2 Y 49 k (1 + l) else Y) o = Y o
      rw [ih _ _ o ho]
      split
      · exact up2_rown ho
      · rfl
  unfold cm1X at h
  cases e : lgX sz 0 sz (up2 A 35 34 (A 35 34 + 1)) with
  | inr B =>
    rw [e] at h
    cases h
  | inl B =>
    rw [e] at h
    have h : (Sum.inl (cmF B sz, recJ (up2 A 35 34 (A 35 34 + 1)) J sz un) : tP ⊕ tP) = .inl s := h
    have hs : (cmF B sz, recJ (up2 A 35 34 (A 35 34 + 1)) J sz un) = s := by injection h
    intro b hb
    rw [← hs]
    show cmF B sz 51 b = 0 ∧ cmF B sz 52 b = 0
    unfold cmF cmE egA
    refine ⟨?_, ?_⟩
    · rw [r _ _ _ _ 51 (by decide), fl_row (by decide), fl_row (by decide), fl_at, if_pos ⟨rfl, Nat.zero_le _, by omega⟩]
    · rw [r _ _ _ _ 52 (by decide), fl_row (by decide), fl_at, if_pos ⟨rfl, Nat.zero_le _, by omega⟩]
theorem cmz_51 {gz : Nat} {s : tP} (h : (if gz ≤ freA_ A J then cm1X A J gz un else bP (checkX A J) (fun s => cm1X s.1 s.2 gz un)) = .inl s) : ∀ b, b < 6200 → s.1 51 b = 0 ∧ s.1 52 b = 0 := by
  split at h
  · exact cm1_51 h
  · cases e : checkX A J with
    | inr y =>
      rw [e] at h
      cases h
    | inl y =>
      rw [e] at h
      exact cm1_51 h
theorem cm_51 {s : tP} (h : cmX A J un = .inl s) : ∀ b, b < 6200 → s.1 51 b = 0 ∧ s.1 52 b = 0 := cmz_51 (gz := gsA A) h
theorem cm_50 {s : tP} (h : cmX A J un = .inl s) : ∀ n, n < 64 → s.1 50 n = 0 := cmz_50 (gz := gsA A) h
/-- a commit, whether power fails or not -/
theorem GVo_cm (hΦ : goodT Φ) (hok : ∀ w A, Φ w A → okT A) (h : CM b0 σ C D) (hR : RO Φ bi sp w C D A J) (hd : dsk A 2110000) (hn : A 35 28 < 64) (hg : gsA A ≤ A 35 6) : (∀ s, cmX A J un = .inr s → GVo 138700 A J (up2 s.1 35 0 1) s.2) ∧ (∀ s, cmX A J un = .inl s → XS true 1 1 138700 A s.1 ∧ JN (tcA A + rcA A) (A 36) J s.2 ∧ (∀ b, b < 6200 → s.1 51 b = 0 ∧ s.1 52 b = 0) ∧ ∀ n, n < 64 → s.1 50 n = 0) := by
  have j := JN_cm (K := 0) (un := un) hΦ hok h hR (dsk_le hd (by omega))
  refine ⟨fun s e => ?_, fun s e => ?_⟩
  · rw [e, oA_r] at j
    exact ⟨false, XS_f (XS_of (XR_cmr hΦ hok h hR hn (Nat.le_trans hg (jo_6 hR).2) e)), j, Or.inl ⟨rfl, Or.inr (up2_s _ _ _ _)⟩⟩
  · have x := XR_cm (un := un) hΦ hok h hR hn hg
    rw [e, oA_l] at x j
    exact ⟨XS_of x, j, cm_51 e, cm_50 e⟩
theorem XS_fl : XS false 0 0 2 A (flY d (A, J)).2.1 ∧ JM J (flY d (A, J)).2.2 := by
  have f := XR_flX (A := A) (J := J)
  have j := JM_fl (A := A) (J := J)
  show XS false 0 0 2 A (cmM (flushX A J) (fun t => ((d : Int), t))).2.1 ∧ JM J (cmM (flushX A J) (fun t => ((d : Int), t))).2.2
  cases e : flushX A J with
  | inl s =>
    rw [e, oA_l] at f j
    exact ⟨XS_of f, j⟩
  | inr s =>
    rw [e, oA_r] at f j
    exact ⟨XS_f (XS_of f), j⟩
theorem GVo_cf (hΦ : goodT Φ) (hok : ∀ w A, Φ w A → okT A) (h : CM b0 σ C D) (hR : RO Φ bi sp w C D A J) (hd : dsk A 2110000) (hn : A 35 28 < 64) (hg : gsA A ≤ A 35 6) : GVo 138702 A J (cfY un d (A, J)).2.1 (cfY un d (A, J)).2.2 := by
  obtain ⟨k1, k2⟩ := GVo_cm (un := un) hΦ hok h hR hd hn hg
  show GVo 138702 A J (cmM (cmX A J un) (fun t => flY d t)).2.1 (cmM (cmX A J un) (fun t => flY d t)).2.2
  cases e : cmX A J un with
  | inr s =>
    obtain ⟨z, x1, x2, x3⟩ := k1 s e
    exact ⟨z, XS_le x1 (Nat.le_refl _) (Nat.le_refl _) (by omega), x2, x3⟩
  | inl s =>
    obtain ⟨x1, x2, x3, x4⟩ := k2 s e
    obtain ⟨f1, f2⟩ := XS_fl (A := s.1) (J := s.2) (d := d)
    show GVo 138702 A J (flY d (s.1, s.2)).2.1 (flY d (s.1, s.2)).2.2
    have ds := (x1 10 (dsk_le hd (by omega))).1
    obtain ⟨-, r, -⟩ := f1 8 ds
    have r51 := r 51 (by decide) (by decide) (by decide) (by decide) (fun k => by cases k.1) (by omega)
    have r52 := r 52 (by decide) (by decide) (by decide) (by decide) (fun k => by cases k.1) (by omega)
    have r50 := r 50 (by decide) (by decide) (by decide) (by decide) (fun k => by cases k.1) (by omega)
    have x := XS_t x1 f1
    rw [Bool.or_false] at x
    exact ⟨true, x, JM_JN x2 f2, Or.inr ⟨fun b hb => by rw [r51, r52]; exact x3 b hb, fun n hn => by rw [r50]; exact x4 n hn⟩⟩
/-- what stands between the calls stays -/
theorem bv_G (ht : t ≤ 63) (hm : m ≤ 9000000) (h : BV t A J N) (on : A 35 18 = 1) (hf : B 35 0 = 1 → B 35 18 = 0) (g : GVo m A J B J') : BV (t + 1) B J' N := by
  obtain ⟨⟨b1, b2, b3⟩, ⟨b4, b5, b6, b7, i5, i6⟩, ⟨b8, b9⟩, b10⟩ := h
  obtain ⟨c1, c2, c3, c4⟩ := b10 on
  obtain ⟨z, x, jn, k⟩ := g
  obtain ⟨x1, x2, x3, x4, x5⟩ := x (10000000 * (65 - (t + 1))) (dsk_le b4 (by omega))
  have r : ∀ o, o ≠ 35 → o ≠ 48 → o ≠ 49 → o ≠ 72 → (o < 39 ∨ 52 < o) → B o = A o := fun o h1 h2 h3 h4 h5 => x2 o h1 h2 h3 h4 (fun q => by omega) (by omega)
  have tr : (tcA B ≤ 20 * (t + 1) + 40 ∧ rcA B ≤ 200 * (t + 1) + 700) ∧ (B 35 18 = 1 → CHG B ∧ gsA B ≤ B 35 6 ∧ J'.2.2.1 + (tcA B + rcA B) ≤ 800 * (t + 1)) := by
    rcases k with ⟨k1, k2⟩ | ⟨k1, k2⟩
    · have r2 : ∀ o, 50 ≤ o → o ≤ 52 → B o = A o := fun o h1 h2 => x2 o (by omega) (by omega) (by omega) (by omega) (fun q => by rw [k1] at q; cases q.1) (by omega)
      have t1 : tcA B = tcA A := by
        unfold tcA
        rw [r2 51 (by omega) (by omega)]
      have t2 : rcA B = rcA A := by
        unfold rcA
        rw [r2 52 (by omega) (by omega)]
      have gs : gsA B = gsA A := by
        unfold gsA
        rw [t1, t2]
      rw [t1, t2]
      refine ⟨⟨Nat.le_trans i5 (ar_x t), Nat.le_trans i6 (ar_y t)⟩, fun q => ⟨?_, by rw [gs, x3 6 (by omega)]; exact c3, ?_⟩⟩
      · unfold CHG TK at c2 ⊢
        rw [r2 50 (by omega) (by omega), r2 51 (by omega) (by omega)]
        exact c2
      · rcases k2 with k2 | k2
        · exact Nat.le_trans (Nat.add_le_add_right k2.1 _) (Nat.le_trans c4 (by omega))
        · rw [hf k2] at q
          cases q
    · obtain ⟨t1, t2⟩ := mk_z k1
      rw [t1, t2]
      refine ⟨⟨Nat.zero_le _, Nat.zero_le _⟩, fun q => ⟨fun n hn y => absurd (k2 n hn) y, by rw [gs_0 k1]; exact Nat.zero_le _, ?_⟩⟩
      exact ar_4 c4 jn.1
  refine ⟨⟨fun v hv => ?_, by rw [x3 57 (by omega)]; exact b2, fun b hb => by rw [r 68 (by decide) (by decide) (by decide) (by decide) (by omega)]; exact b3 b hb⟩, ⟨x1, by omega, by omega, ar_s3 b7, tr.1.1, tr.1.2⟩, ⟨ar_4 c4 jn.1, fun p s y => ?_⟩, fun q => ?_⟩
  · rw [r 64 (by decide) (by decide) (by decide) (by decide) (by omega), r (62 + v) (by omega) (by omega) (by omega) (by omega) (by omega)]
    exact b1 v hv
  · rcases jn.2 p s y with ⟨p', y⟩ | y
    · exact b9 p' s y
    · rw [y]
      exact HI_nl c1
  · obtain ⟨y1, y2, y3⟩ := tr.2 q
    refine ⟨HI_kw c1 ⟨fun m _ => ?_, r 71 (by decide) (by decide) (by decide) (by decide) (by omega)⟩, y1, y2, y3⟩
    unfold nd
    rw [r 36 (by decide) (by decide) (by decide) (by decide) (by omega)]
    exact ⟨rfl, rfl⟩
end GVS
