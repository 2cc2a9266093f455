/-! ===== PURE: what posting ahead leaves in the reference ===== -/
section UAS
variable {Φ : tPh} {b0 : Nat} {σ : tM} {bi sp : Nat → Nat} {w : Nat → Nat × Nat} {C : tS} {D : tD} {A B E : tS} {J J' : tJ} {K t un n : Nat}
theorem JN_cmz {gz : Nat} (hb : ∀ s, checkX A J = .inl s → blk s.1 ≤ 6200 ∧ s.1 51 = A 51 ∧ s.1 52 = A 52 ∧ s.1 36 = A 36) (hb0 : blk A ≤ 6200) : JN (tcA A + rcA A) (A 36) J (oA (if gz ≤ freA_ A J then cm1X A J gz un else bP (checkX A J) (fun s => cm1X s.1 s.2 gz un))).2 := by
  split
  · exact JN_cm1 hb0
  · have f := JM_ck (A := A) (J := J)
    cases e : checkX A J with
    | inr s =>
      rw [e, oA_r] at f
      exact JN_m f
    | inl s =>
      rw [e, oA_l] at f
      obtain ⟨b1, b2, b3, b4⟩ := hb s e
      have g := JN_cm1 (A := s.1) (J := s.2) (un := un) (sz := gz) b1
      have t1 : tcA s.1 = tcA A := by
        unfold tcA
        rw [b2]
      have t2 : rcA s.1 = rcA A := by
        unfold rcA
        rw [b3]
      rw [t1, t2, b4] at g
      refine ⟨Nat.le_trans g.1 (Nat.add_le_add_right f.1 _), fun p q y => ?_⟩
      rcases g.2 p q y with ⟨p', z⟩ | z
      · exact Or.inl (f.2 p' q z)
      · exact Or.inr z
theorem JN_cm (hΦ : goodT Φ) (hok : ∀ w A, Φ w A → okT A) (h : CM b0 σ C D) (hR : RO Φ bi sp w C D A J) (hd : dsk A (K + 2100006)) : JN (tcA A + rcA A) (A 36) J (oA (cmX A J un)).2 := by
  have jo := hR.1.2.1.2.2.1
  have b0' : blk A ≤ 6200 := by
    unfold JO at jo
    unfold blk
    omega
  refine JN_cmz (fun s e => ?_) b0'
  obtain ⟨-, -, -, -, -, kq⟩ := ck_RO (K := K) hΦ hok h hR hd e
  have rr := ck_rows (K := K) hΦ hok h hR hd e
  refine ⟨?_, rr 51 (by decide) (by decide) (by omega), rr 52 (by decide) (by decide) (by omega), rr 36 (by decide) (by decide) (by omega)⟩
  unfold blk at b0' ⊢
  rw [kq 6 (by omega), kq 7 (by omega)]
  exact b0'
/-- posting ahead, on or off, whether power fails or not -/
theorem ua_x (hΦ : goodT Φ) (hok : ∀ w A, Φ w A → okT A) (h : CM b0 σ C D) (hR : ST Φ bi sp w C D A J) (hd : dsk A (K + 2110000)) (hn : A 35 28 < 64) (hg : A 35 18 = 1 → gsA A ≤ A 35 6) : XR true 1 1 138700 (up2 A 35 0 0) (oA (uaX (up2 A 35 0 0) J un)).1 ∧ JN (tcA A + rcA A) (A 36) J (oA (uaX (up2 A 35 0 0) J un)).2 := by
  have sc := sC_0 (A := A) (v := 0)
  have e18 : up2 A 35 0 0 35 18 = A 35 18 := up2_j (by decide)
  have triv : XR true 1 1 138700 (up2 A 35 0 0) (up2 A 35 0 0) := XR_tt (XR_le XR_r (by omega) (by omega) (by omega))
  rcases hR with q | q
  · have on : A 35 18 = 1 := q.2.2.2.2.2.2.1
    have q' := RO_scr hΦ hok q sc
    have ux : uaX (up2 A 35 0 0) J un = paX (up2 A 35 0 0) J un := if_neg (by rw [e18, on]; decide)
    rw [ux]
    by_cases c : gsA (up2 A 35 0 0) ≤ up2 A 35 0 0 35 6 / 2
    · have e : paX (up2 A 35 0 0) J un = .inl (up2 A 35 0 0, J) := if_pos c
      rw [e, oA_l]
      exact ⟨triv, JN_m JM_r⟩
    · have e : paX (up2 A 35 0 0) J un = cmX (up2 A 35 0 0) J un := if_neg c
      rw [e]
      have tc0 : tcA (up2 A 35 0 0) = tcA A := by
        unfold tcA
        rw [up2_rown (by decide)]
      have rc0 : rcA (up2 A 35 0 0) = rcA A := by
        unfold rcA
        rw [up2_rown (by decide)]
      have gs0 : gsA (up2 A 35 0 0) = gsA A := by
        unfold gsA
        rw [tc0, rc0]
      have j := JN_cm (K := K) (un := un) hΦ hok h q' (dsk_le (dsk_scr hd sc) (by omega))
      rw [tc0, rc0, up2_rown (by decide)] at j
      refine ⟨XR_cm hΦ hok h q' (by rw [up2_j (by decide)]; exact hn) ?_, j⟩
      rw [gs0, up2_j (by decide)]
      exact hg on
  · have e : uaX (up2 A 35 0 0) J un = .inr (up2 A 35 0 0, J) := if_pos (by rw [e18]; exact q.2.1)
    rw [e, oA_r]
    exact ⟨triv, JN_m JM_r⟩
/-- where power fails in it the marks are as they were -/
theorem ua_xr {p : tP} (hΦ : goodT Φ) (hok : ∀ w A, Φ w A → okT A) (h : CM b0 σ C D) (hR : ST Φ bi sp w C D A J) (hd : dsk A (K + 2110000)) (hn : A 35 28 < 64) (hg : A 35 18 = 1 → gsA A ≤ A 35 6) (e : uaX (up2 A 35 0 0) J un = .inr p) : p.1 51 = A 51 ∧ p.1 52 = A 52 := by
  have sc := sC_0 (A := A) (v := 0)
  have e18 : up2 A 35 0 0 35 18 = A 35 18 := up2_j (by decide)
  rcases hR with q | q
  · have on : A 35 18 = 1 := q.2.2.2.2.2.2.1
    have q' := RO_scr hΦ hok q sc
    have ux : uaX (up2 A 35 0 0) J un = paX (up2 A 35 0 0) J un := if_neg (by rw [e18, on]; decide)
    rw [ux] at e
    by_cases c : gsA (up2 A 35 0 0) ≤ up2 A 35 0 0 35 6 / 2
    · have e2 : paX (up2 A 35 0 0) J un = .inl (up2 A 35 0 0, J) := if_pos c
      rw [e2] at e
      cases e
    · have e2 : paX (up2 A 35 0 0) J un = cmX (up2 A 35 0 0) J un := if_neg c
      rw [e2] at e
      have gs0 : gsA (up2 A 35 0 0) = gsA A := by
        unfold gsA tcA rcA
        rw [up2_rown (by decide), up2_rown (by decide)]
      have x := XR_cmr hΦ hok h q' (by rw [up2_j (by decide)]; exact hn) (by rw [gs0]; exact Nat.le_trans (hg on) (jo_6 q).2) e
      obtain ⟨-, r, -⟩ := x K (dsk_le (dsk_scr hd sc) (by omega))
      exact ⟨by rw [r 51 (by decide) (by decide) (fun k => by cases k.1) (by omega), up2_rown (by decide)], by rw [r 52 (by decide) (by decide) (fun k => by cases k.1) (by omega), up2_rown (by decide)]⟩
  · have e2 : uaX (up2 A 35 0 0) J un = .inr (up2 A 35 0 0, J) := if_pos (by rw [e18]; exact q.2.1)
    rw [e2] at e
    have : (up2 A 35 0 0, J) = p := by injection e
    rw [← this]
    show up2 A 35 0 0 51 = A 51 ∧ up2 A 35 0 0 52 = A 52
    exact ⟨up2_rown (by decide), up2_rown (by decide)⟩
/-- marks behind posting ahead: none, or as they were -/
theorem ua_mk {p : tP} (hΦ : goodT Φ) (hok : ∀ w A, Φ w A → okT A) (h : CM b0 σ C D) (q : RO Φ bi sp w C D A J) (hd : dsk A (K + 2104102)) (e : uaX (up2 A 35 0 0) J un = .inl p) : (p.1 50 = A 50 ∧ p.1 51 = A 51 ∧ p.1 52 = A 52 ∧ p.2 = J) ∨ (∀ b, b < 6200 → p.1 51 b = 0 ∧ p.1 52 b = 0) := by
  have sc := sC_0 (A := A) (v := 0)
  have q' := RO_scr hΦ hok q sc
  obtain ⟨-, -, -, x7⟩ := ua_fx (K := K) hΦ hok h q' (dsk_le (dsk_scr hd sc) (Nat.add_le_add_left (by decide) K)) e
  rcases x7 with ⟨y, -⟩ | y
  · refine Or.inl ?_
    rw [y]
    show up2 A 35 0 0 50 = A 50 ∧ up2 A 35 0 0 51 = A 51 ∧ up2 A 35 0 0 52 = A 52 ∧ J = J
    exact ⟨up2_rown (by decide), up2_rown (by decide), up2_rown (by decide), rfl⟩
  · exact Or.inr y
theorem cm1_50 {sz : Nat} {s : tP} (h : cm1X A J sz un = .inl s) : ∀ n, n < 64 → s.1 50 n = 0 := by
  have r : ∀ l m k (Y : tS), (∀ o, o ≠ 49 → rtc l k m Y o = Y o) := by
    intro l m
    induction m with
    | zero =>
      intro k Y o _
      rfl
    | succ m ih =>
      intro k Y o ho
      show rtc l (k + 1) m (if Y 49 k = 1 then up2 Y 49 k (1 + l) else Y) o = Y o
      rw [ih _ _ o ho]
      split
      · exact up2_rown ho
      · rfl
  unfold cm1X at h
  cases e : lgX sz 0 sz (up2 A 35 34 (A 35 34 + 1)) with
  | inr B =>
    rw [e] at h
    cases h
  | inl B =>
    rw [e] at h
    have h : (Sum.inl (cmF B sz, recJ (up2 A 35 34 (A 35 34 + 1)) J sz un) : tP ⊕ tP) = .inl s := h
    have hs : (cmF B sz, recJ (up2 A 35 34 (A 35 34 + 1)) J sz un) = s := by injection h
    intro n hn
    rw [← hs]
    show cmF B sz 50 n = 0
    unfold cmF cmE egA
    rw [r _ _ _ _ 50 (by decide), fl_at, if_pos ⟨rfl, Nat.zero_le _, by omega⟩]
theorem cmz_50 {gz : Nat} {s : tP} (h : (if gz ≤ freA_ A J then cm1X A J gz un else bP (checkX A J) (fun s => cm1X s.1 s.2 gz un)) = .inl s) : ∀ n, n < 64 → s.1 50 n = 0 := by
  split at h
  · exact cm1_50 h
  · cases e : checkX A J with
    | inr y =>
      rw [e] at h
      cases h
    | inl y =>
      rw [e] at h
      exact cm1_50 h
theorem ua_50 {p : tP} (e : uaX A J un = .inl p) : p = (A, J) ∨ ∀ n, n < 64 → p.1 50 n = 0 := by
  unfold uaX at e
  split at e
  · cases e
  · unfold paX at e
    split at e
    · refine Or.inl ?_
      cases e
      rfl
    · exact Or.inr (cmz_50 e)
/-- a mark of change, and something is touched, also behind posting ahead -/
theorem CHG_ua {p : tP} (c : CHG A) (e : uaX (up2 A 35 0 0) J un = .inl p) : CHG p.1 := by
  rcases ua_50 e with y | y
  · rw [y]
    exact CHG_k KG_51 c
  · exact fun n hn z => absurd (y n hn) z
end UAS
