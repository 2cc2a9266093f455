/-! ===== PURE: the relation stays where the disk acts ===== -/
section RLD
variable {Φ : tPh} {bi sp : Nat → Nat} {w : Nat → Nat × Nat} {C C' : tS} {D D' : tD} {A B : tS} {J J' : tJ} {n k m q b wh id K : Nat}
theorem MR_36 {W : Nat → Nat} (e : B 36 = A 36) (h : MR bi w W A) : MR bi w W B := by
  unfold MR NW BW EW us nd pt eZ pv se at h ⊢
  rw [e]
  exact h
theorem sr_36 (s : Nat → Nat) : upR A 36 s 36 = s := by
  funext q
  exact if_pos rfl
theorem sr_o {s : Nat → Nat} {o : Nat} (h : o ≠ 36) : upR A 36 s o = A o := by
  funext q
  exact if_neg h
/-- contents do not depend on the disk -/
theorem CT_all (hΦ : goodT Φ) (h : CT Φ bi D A J) (hf : ∀ q, q = 28 ∨ q = 29 ∨ q = 35 ∨ q = 7 → B 35 q = A 35 q) (hm : ∀ m q, m ≤ A 35 28 - A 35 35 → q < 65088 → mW D' m q = mW D m q) (hok : ∀ w A, Φ w A → okT A) (h0 : A 35 35 ≤ A 35 29) : CT Φ bi D' B J := by
  intro n n1 n2
  rw [hf 29 (by omega)] at n1
  rw [hf 28 (by omega)] at n2
  obtain ⟨s, w, k1, k2, k3, k4⟩ := h n n1 n2
  have e36 : upR B 36 s 36 = upR A 36 s 36 := by rw [sr_36, sr_36]
  have e7 : upR B 36 s 35 7 = upR A 36 s 35 7 := by rw [sr_o (by decide), sr_o (by decide), hf 7 (by omega)]
  have k3' := hΦ w _ _ e36 e7 k3
  have ud : udC B J n = udC A J n := by
    unfold udC
    rw [hf 35 (by omega)]
  refine ⟨s, w, by rw [ud]; exact k1, ?_, k3', ?_⟩
  · rw [hf 35 (by omega)]
    exact MR_W (hok w _ k3') (MR_36 e36 k2) (fun q hq => hm _ q (by omega) hq)
  · unfold us se at k4 ⊢
    rw [e36]
    exact k4
theorem JR_all (h : JR sp C D A J) (hc : ∀ q, C' 20 q = C 20 q) (hd : dL D' = dL D ∧ dH D' = dH D ∧ dT D' = dT D ∧ dX D' = dX D) (hf : ∀ q, q = 6 ∨ q = 7 ∨ (28 ≤ q ∧ q ≤ 35 ∧ q ≠ 34) ∨ q = 46 → B 35 q = A 35 q) : JR sp C' D' B J := by
  obtain ⟨h1, h2, h3, h4, h5, h6⟩ := h
  obtain ⟨d1, d2, d3, d4⟩ := hd
  have nb : ∀ c, nbA B c = nbA A c := fun c => by unfold nbA; rw [hf 6 (by omega)]
  refine ⟨?_, ?_, ?_, ?_, ?_, fun n n1 n2 => ?_⟩
  · unfold JF
    rw [hc, hc, hc, hc, hc, hc, hc, hc, hf 6 (by omega), hf 33 (by omega), hf 46 (by omega), hf 28 (by omega), hf 29 (by omega), hf 30 (by omega), hf 31 (by omega), hf 32 (by omega)]
    exact h1
  · rw [d1, d2, hf 35 (by omega), hf 28 (by omega)]
    exact h2
  · unfold JO
    rw [hf 6 (by omega), hf 7 (by omega), hf 28 (by omega), hf 29 (by omega), hf 30 (by omega), hf 31 (by omega), hf 32 (by omega), hf 35 (by omega)]
    exact h3
  · unfold JG
    rw [hf 6 (by omega), hf 28 (by omega), hf 33 (by omega), hf 35 (by omega), hf 46 (by omega)]
    exact h4
  · rw [hc, hf 28 (by omega), hf 35 (by omega)]
    exact h5
  · have t := h6 n (by rw [← d1]; exact n1) (by rw [← d2]; exact n2)
    unfold TR at t ⊢
    rw [d3, d4, hf 35 (by omega), hf 6 (by omega), hf 7 (by omega)]
    refine ⟨t.1, fun i hi => by rw [nb]; exact t.2.1 i hi, fun i hi => by rw [nb]; exact t.2.2.1 i hi, t.2.2.2⟩
/-- what the disk's steps leave -/
def dkO (A B : tS) : Prop := (∀ o, o ≠ 35 → (o < 39 ∨ 46 < o) → B o = A o) ∧ ∀ q, q ≠ 15 → q ≠ 16 → q ≠ 18 → q ≠ 19 → q ≠ 20 → q ≠ 21 → B 35 q = A 35 q
theorem CO_disk (hΦ : goodT Φ) (hok : ∀ w A, Φ w A → okT A) (h : CO Φ bi sp C D A J) (hR : DR bi sp C' D' B) (hc : cO C C') (hj : JP D D') (ho : dkO A B) (g1 : LGd B J) (g2 : HDd B) (g3 : RG bi B) : CO Φ bi sp C' D' B J := by
  obtain ⟨h1, h2, h3, h4, h5, h6, h7, h8, h9, h10⟩ := h
  obtain ⟨o1, o2⟩ := ho
  have cp : ∀ p, 10 ≤ p → C' p = C p := fun p hp => hc p (by omega) (by omega) (by omega) (by omega) (by omega) (by omega) (by omega)
  have of : ∀ q, q ≤ 14 ∨ 22 ≤ q → B 35 q = A 35 q := fun q hq => o2 q (by omega) (by omega) (by omega) (by omega) (by omega) (by omega)
  obtain ⟨⟨j1, j2, j3, j4, j5⟩, j6, j7⟩ := JP_KW hj
  have hJO := h2.2.2.1
  refine ⟨hR, JR_all h2 (fun q => by rw [cp 20 (by decide)]) ⟨j4, j5, j2, j3⟩ (fun q hq => of q (by omega)), ?_, ?_, g1, g2, g3, ?_, ?_, ?_⟩
  · unfold JL
    rw [of 6 (by omega), of 7 (by omega)]
    exact h3
  · refine CT_all hΦ h4 (fun q hq => of q (by omega)) (fun m q hm hq => mW_JP hj (by omega) m ?_) hok (by have := hJO; unfold JO at this; omega)
    rw [h2.2.1.1, h2.2.1.2]
    exact hm
  · unfold SPJ
    rw [cp 20 (by decide), of 34 (by omega)]
    exact h8
  · obtain ⟨m1, m2, m3, m4⟩ := h9
    unfold MI
    rw [cp 10 (by decide), cp 11 (by decide), of 6 (by omega), of 7 (by omega), of 34 (by omega)]
    exact ⟨ci_cong m1 (fun q _ => by rw [cp 10 (by decide)]) (cp 15 (by decide)) (cp 16 (by decide)) (cp 17 (by decide)), m2, m3, m4⟩
  · exact TP_all h10 (fun p hp => cp p (by omega)) (fun o hp => o1 o (by omega) (by omega)) (of 57 (by omega))
theorem dk_pow : dkO A (powA A) := by
  refine ⟨fun o h1 h2 => ?_, fun q h1 h2 h3 h4 h5 h6 => ?_⟩
  · unfold powA
    rw [fl_row (by omega), up2_rown h1, up2_rown h1]
  · unfold powA
    rw [fl_row (by decide), up2_j h4, up2_j h3]
theorem dk_flu (h5 : A 35 15 < 256) : dkO A (fluA A) := by
  obtain ⟨i1, i2, i3, i4, i5⟩ := flu_all h5
  exact ⟨fun o h1 h2 => i5 o h1 (by omega) (by omega) (by omega), fun q h1 h2 _ h4 h5 h6 => i4 q h1 h2 h4 h5 h6⟩
theorem dk_ver : dkO A (verA A b wh id) := ⟨fun o h1 h2 => funext (fun q => verA_o A b wh id q h1 (by omega)), fun q h1 h2 _ h4 h5 _ => verA_35 A b wh id q h1 h2 h4 h5⟩
theorem LGd_dk (h : LGd A J) (e : ∀ q, q = 6 ∨ q = 29 ∨ q = 35 → B 35 q = A 35 q) (hk : ∀ k i, k < A 35 29 - A 35 35 → i < J.1 39 k → NV A (whB A J k i) → NV B (whB A J k i) ∧ cur B (whB A J k i) = cur A (whB A J k i)) : LGd B J := by
  intro k i k1 k2
  rw [e 29 (by omega), e 35 (by omega)] at k1
  have wb : whB B J k i = whB A J k i := by unfold whB; rw [e 6 (by omega)]
  obtain ⟨a1, a2, a3⟩ := h k i k1 k2
  obtain ⟨b1, b2⟩ := hk k i k1 k2 a3
  rw [cur_NV b1, cur_NV a3] at b2
  have c1 := congrArg Prod.fst b2
  have c2 := congrArg Prod.snd b2
  simp only at c1 c2
  rw [wb]
  exact ⟨by rw [c1]; exact a1, by rw [c2]; exact a2, b1⟩
/-- power fails -/
theorem CO_pow (hΦ : goodT Φ) (hok : ∀ w A, Φ w A → okT A) (h : CO Φ bi sp C D A J) (hR : DR bi sp C' D' (powA A)) (hc : cO C C') (hj : JP D D') : CO Φ bi sp C' D' (powA A) J := by
  have s := pow_sD (A := A)
  have k := dk_pow (A := A)
  have e : ∀ q, q ≤ 14 ∨ 22 ≤ q → powA A 35 q = A 35 q := fun q hq => k.2 q (by omega) (by omega) (by omega) (by omega) (by omega) (by omega)
  refine CO_disk hΦ hok h hR hc hj k (LGd_dk h.2.2.2.2.1 (fun q hq => e q (by omega)) (fun k i _ _ x => ⟨NV_sD s x, cur_sD s⟩)) ?_ ?_
  · have := AV_sD s h.2.2.2.2.2.1
    unfold HDd
    rw [e 35 (by omega), e 28 (by omega)]
    exact this
  · have := AV_sD s h.2.2.2.2.2.2.1
    unfold RG
    rw [e 6 (by omega), e 7 (by omega), e 34 (by omega)]
    exact this
theorem CO_flu (hΦ : goodT Φ) (hok : ∀ w A, Φ w A → okT A) (h : CO Φ bi sp C D A J) (h5 : A 35 15 < 256) (hR : DR bi sp C' D' (fluA A)) (hc : cO C C') (hj : JP D D') : CO Φ bi sp C' D' (fluA A) J := by
  have k := dk_flu h5
  have e : ∀ q, q ≤ 14 ∨ 22 ≤ q → fluA A 35 q = A 35 q := fun q hq => k.2 q (by omega) (by omega) (by omega) (by omega) (by omega) (by omega)
  refine CO_disk hΦ hok h hR hc hj k (LGd_dk h.2.2.2.2.1 (fun q hq => e q (by omega)) (fun k i _ _ x => ⟨NV_flu h5, cur_flu h5⟩)) ?_ ?_
  · have := AV_flu h.2.2.2.2.2.1 h5
    unfold HDd
    rw [e 35 (by omega), e 28 (by omega)]
    exact this
  · have := AV_flu h.2.2.2.2.2.2.1 h5
    unfold RG
    rw [e 6 (by omega), e 7 (by omega), e 34 (by omega)]
    exact this
/-- a version is put: no block of the log that is durable -/
theorem CO_ver (hΦ : goodT Φ) (hok : ∀ w A, Φ w A → okT A) (h : CO Φ bi sp C D A J) (hd : dsk A K) (hR : DR bi sp C' D' (verA A b wh id)) (hc : cO C C') (hj : JP D D') (h1 : ∀ k i, k < A 35 29 - A 35 35 → i < J.1 39 k → whB A J k i ≠ b) (h2 : b = 0 → wh = 1 ∧ A 35 35 ≤ id ∧ id ≤ A 35 28) (h3 : rgP (A 35 6) b wh) (h4 : wh = 2 → id ≤ A 35 34) (h5 : wh = 3 → bi id ≠ 0 ∧ b < 34 + A 35 6 + A 35 7) : CO Φ bi sp C' D' (verA A b wh id) J := by
  have k := dk_ver (A := A) (b := b) (wh := wh) (id := id)
  have e : ∀ q, q ≤ 14 ∨ 22 ≤ q → verA A b wh id 35 q = A 35 q := fun q hq => k.2 q (by omega) (by omega) (by omega) (by omega) (by omega) (by omega)
  refine CO_disk hΦ hok h hR hc hj k (LGd_dk h.2.2.2.2.1 (fun q hq => e q (by omega)) (fun k i k1 k2 x => ⟨NV_ver hd x (fun y => h1 k i k1 k2 y.symm), by rw [cur_ver hd, if_neg (fun y => h1 k i k1 k2 y.symm)]⟩)) ?_ ?_
  · have := AV_ver (b := b) (wh := wh) (id := id) hd h.2.2.2.2.2.1 (fun e => Or.inl (h2 e))
    unfold HDd
    rw [e 35 (by omega), e 28 (by omega)]
    exact this
  · have := AV_ver (b := b) (wh := wh) (id := id) hd h.2.2.2.2.2.2.1 ⟨h3, h4, h5⟩
    unfold RG
    rw [e 6 (by omega), e 7 (by omega), e 34 (by omega)]
    exact this
/-- memory and the disk's steps -/
theorem SR_disk (h : SR bi w C A) (hc : cO C C') (ho : dkO A B) : SR bi w C' B := by
  obtain ⟨o1, o2⟩ := ho
  have cp : ∀ p, 10 ≤ p → C' p = C p := fun p hp => hc p (by omega) (by omega) (by omega) (by omega) (by omega) (by omega) (by omega)
  have of : ∀ q, q ≤ 14 ∨ 22 ≤ q → B 35 q = A 35 q := fun q hq => o2 q (by omega) (by omega) (by omega) (by omega) (by omega) (by omega)
  have B36 := o1 36 (by decide) (by decide)
  refine ⟨rk_by (ci_cong h.rk.1 (fun q _ => by rw [cp 10 (by decide)]) (cp 15 (by decide)) (cp 16 (by decide)) (cp 17 (by decide))) (sk_cong h.rk.2.1 (cp 12 (by decide)) (fun q _ => by rw [cp 10 (by decide)])) (by rw [cp 10 (by decide)]) h.rk, ?_, ?_, ?_, ?_, ?_, ?_, ?_⟩
  · have := h.ti
    unfold TI slo hasA leafA us nd pt eZ at this ⊢
    rw [B36, of 7 (by omega)]
    exact this
  · rw [cp 11 (by decide)]
    exact MR_36 B36 h.mr
  · rw [cp 11 (by decide)]
    have := h.fb
    unfold FB us nd at this ⊢
    rw [B36, o1 47 (by decide) (by decide)]
    exact this
  · have := h.bj
    unfold BJ us se at this ⊢
    rw [B36, of 34 (by omega), cp 10 (by decide)]
    exact this
  · have := h.zm
    unfold ZM us nbA se at this ⊢
    rw [B36, of 6 (by omega), of 7 (by omega), of 28 (by omega), o1 49 (by decide) (by decide), o1 51 (by decide) (by decide), o1 52 (by decide) (by decide), o1 48 (by decide) (by decide), o1 50 (by decide) (by decide), o1 71 (by decide) (by decide), cp 10 (by decide), cp 12 (by decide), cp 13 (by decide), cp 14 (by decide), cp 15 (by decide), cp 16 (by decide), cp 17 (by decide), cp 19 (by decide), cp 32 (by decide)]
    exact this
  · have := h.ok
    unfold okT at this ⊢
    rw [B36]
    exact this
  · have := h.gh
    unfold GH us nd at this ⊢
    rw [B36, of 7 (by omega), o1 49 (by decide) (by decide), o1 48 (by decide) (by decide), cp 11 (by decide), cp 15 (by decide), cp 16 (by decide), cp 100 (by decide)]
    exact this
theorem OF_pow (hΦ : goodT Φ) (hok : ∀ w A, Φ w A → okT A) (h : CO Φ bi sp C D A J) (hu : J.2.1 = A 35 28 - A 35 35) (hR : DR bi sp C' D' (powA A)) (hc : cO C C') (hj : JP D D') (h46 : ∀ b, A 46 b = 0) : OF Φ bi sp C' D' (powA A) J := by
  have e : ∀ q, q ≤ 14 ∨ 22 ≤ q → powA A 35 q = A 35 q := fun q hq => (dk_pow (A := A)).2 q (by omega) (by omega) (by omega) (by omega) (by omega) (by omega)
  have z : ∀ b, powA A 46 b = 0 := fun b => by
    unfold powA
    rw [fl_at]
    split
    · rfl
    · rw [up2_o (by decide), up2_o (by decide)]
      exact h46 b
  refine ⟨CO_pow hΦ hok h hR hc hj, ?_, Or.inl (by rw [e 28 (by omega), e 35 (by omega)]; exact hu), fun b _ => by rw [z]; exact Nat.zero_le _, fun b _ => z b⟩
  unfold powA
  rw [fl_row (by decide), up2_j (by decide), up2_s]
end RLD
