/-! ===== PURE: the reference's public methods: fsync, fdatasync, sync, post, writeBack, apply ===== -/
def ofS (s : tP) : Int × tP := (0, (up2 s.1 35 0 1, s.2))
def cmM (X : tP ⊕ tP) (g : tP → Int × tP) : Int × tP := match X with
  | .inl t => g t
  | .inr t => ofS t
def flY (d : Nat) (s : tP) : Int × tP := cmM (flushX s.1 s.2) (fun t => ((d : Int), t))
def cfY (un d : Nat) (s : tP) : Int × tP := cmM (cmX s.1 s.2 un) (fun t => flY d t)
def upX (A : tS) (J : tJ) (f : tS → Nat → Int × tP) (un : Nat) : Int × tP := if A 35 18 = 0 then ofS (up2 A 35 0 0, J) else f (up2 A 35 0 0) un
/-- dirty blocks first, then what is to follow -/
def wdY (o : Option Nat) (most : Nat) (J : tJ) (A : tS) (g : Nat → tS → Int × tP) : Int × tP := match wdX o most A with
  | .inl p => g p.1 p.2
  | .inr B => ofS (B, J)
def fsY (x : Int32) (J : tJ) (A : tS) (un : Nat) : Int × tP := match hdA A x with
  | none => (-9, (A, J))
  | some n => wdY (some n) 2000 J A (fun d B => if gsA B = 0 then flY d (B, J) else cfY un d (B, J))
def fdY (x : Int32) (J : tJ) (A : tS) (un : Nat) : Int × tP := match hdA A x with
  | none => (-9, (A, J))
  | some n => wdY (some n) 2000 J A (fun d B => if B 50 n = 0 then flY d (B, J) else cfY un d (B, J))
def snY (J : tJ) (A : tS) (un : Nat) : Int × tP := wdY none 2000 J A (fun d B => if gsA B = 0 then flY d (B, J) else cfY un d (B, J))
def poY (J : tJ) (A : tS) (un : Nat) : Int × tP := if gsA A = 0 then (0, (A, J)) else cmM (cmX A J un) (fun t => (((gsA A : Nat) : Int), t))
def wbY (x : Int32) (J : tJ) (A : tS) (_ : Nat) : Int × tP := if x < 0 then (-9, (A, J)) else wdY none x.toNatClampNeg J A (fun d B => ((d : Int), (B, J)))
def aqL (J : tJ) (n : Nat) : Nat → Nat → tS → Int × tP
  | 0, d, A => ((d : Int), (A, J))
  | m + 1, d, A => if n ≤ d ∨ A 35 29 ≤ A 35 30 then ((d : Int), (A, J)) else match applyX A J with
      | .inl B => aqL J n m (d + 1) B
      | .inr B => ofS (B, J)
def aqOk (J : tJ) (n : Nat) : Nat → Nat → tS → Prop
  | 0, _, A => A 35 29 ≤ A 35 30
  | m + 1, d, A => n ≤ d ∨ A 35 29 ≤ A 35 30 ∨ (apOk A J ∧ ∀ B, applyX A J = .inl B → aqOk J n m (d + 1) B)
def aqY (x : Int32) (J : tJ) (A : tS) (_ : Nat) : Int × tP := if x < 0 then (-9, (A, J)) else aqL J x.toNatClampNeg (A 35 29 - A 35 30) 0 A
def QW (b0 N : Nat) (f : Nat → Int × tP) (v : Int32) (τ : tM) : Prop := ∃ un, un ≤ N ∧ v = iz (f un).1 ∧ RM b0 (f un).2.2 τ (f un).2.1 N
/-- what a commit and then a flush ask for -/
def cfOk (s : tP) : Prop := cmOk s.1 s.2 ∧ ∀ un t, un < 1000000000 → cmX s.1 s.2 un = .inl t → flOk t.1 t.2
def syOk2 (o : Option Nat) (J : tJ) (A : tS) : Prop := dsk A 2000 ∧ ∀ d B, wdX o 2000 A = .inl (d, B) → flOk B J ∧ (gsA B ≠ 0 → cfOk (B, J))
section SY
variable {b0 fu : Nat} {σ τ : tM} {A B U : tS} {N N' K K' : Nat} {J : tJ}
theorem off_tail (h : RM b0 J σ A N) : wp (FR b0) σ (ckO b0 σ (b0 + 35) 11 (cll (m_X12_off b0 fu (b0 + 35) σ) (fun v ρ => some (v, ρ)))) (QW b0 N (fun _ => ofS (A, J))) := by
  rw [ckR_35 h.ra.lay]
  refine wp_bind (FR_good b0) (off_wp (fu := fu) h) ?_
  intro v ρ ⟨e1, q3⟩
  subst e1
  exact wp_ret ((FR_good b0).1 _) ⟨0, Nat.zero_le _, rfl, q3⟩
theorem fl_tail {d : Nat} (h : RM b0 J σ A N) (ho : flOk A J) (hu : 200000 ≤ fu) : wp (FR b0) σ (ckO b0 σ (b0 + 35) 11 (cly (m_X12_flush b0 fu (b0 + 35) σ) (fun _ ρ => some (nI d, ρ)) (fun ρ => ckO b0 ρ (b0 + 35) 11 (cll (m_X12_off b0 fu (b0 + 35) ρ) (fun v ρ => some (v, ρ)))))) (QW b0 N (fun _ => flY d (A, J))) := by
  rw [ckR_35 h.ra.lay]
  have hf := flush_wp' (fu := fu) h ho hu
  have e : flY d (A, J) = cmM (flushX A J) (fun t => ((d : Int), t)) := rfl
  rw [e]
  cases eX : flushX A J with
  | inl t =>
    rw [eX] at hf
    refine wp_cly (FR_good b0) hf ?_ ?_
    · intro v ρ q
      exact wp_ret ((FR_good b0).1 _) ⟨0, Nat.zero_le _, (iz_n _).symm, q.2⟩
    · intro ρ q
      exact absurd q.1 (fun e => by cases e)
  | inr t =>
    rw [eX] at hf
    refine wp_cly (FR_good b0) hf ?_ ?_
    · intro v ρ q
      exact absurd q.1 (fun e => by cases e)
    · intro ρ q
      exact off_tail q.2
theorem cf_tail {k : Unit → tM → Option (Int32 × tM)} {g : tP → Int × tP} (h : RM b0 J σ A N) (ho : cmOk A J) (hu : 1200000 ≤ fu)
    (hk : ∀ un t ρ, un ≤ N → cmX A J un = .inl t → RM b0 t.2 ρ t.1 N → wp (FR b0) ρ (k () ρ) (QW b0 N (fun _ => g t))) :
    wp (FR b0) σ (cly (m_X12_commit b0 fu (b0 + 35) σ) k (fun ρ => ckO b0 ρ (b0 + 35) 11 (cll (m_X12_off b0 fu (b0 + 35) ρ) (fun v ρ => some (v, ρ))))) (QW b0 N (fun un => cmM (cmX A J un) g)) := by
  refine wp_cly (FR_good b0) (commit_wp (fu := fu) h ho hu) ?_ ?_
  · intro v ρ ⟨un, hun, q⟩
    cases eX : cmX A J un with
    | inl t =>
      rw [eX] at q
      refine wp_mono (hk un t ρ hun eX q.2) ?_
      intro v2 ρ2 _ ⟨_, _, e1, e2⟩
      exact ⟨un, hun, by simp only [eX]; exact e1, by simp only [eX]; exact e2⟩
    | inr t =>
      rw [eX] at q
      exact absurd q.1 (fun e => by cases e)
  · intro ρ ⟨un, hun, q⟩
    cases eX : cmX A J un with
    | inl t =>
      rw [eX] at q
      exact absurd q.1 (fun e => by cases e)
    | inr t =>
      rw [eX] at q
      refine wp_mono (off_tail (fu := fu) q.2) ?_
      intro v2 ρ2 _ ⟨_, _, e1, e2⟩
      exact ⟨un, hun, by simp only [eX]; exact e1, by simp only [eX]; exact e2⟩
theorem wd_tail {o : Option Nat} {most : Nat} {k : Int32 → tM → Option (Int32 × tM)} {g : Nat → Nat → tS → Int × tP} (h : RM b0 J σ A N) (ho : ∀ n, o = some n → n < 64) (hm : most < 2147483648) (hd : dsk A 2000) (hu : 10000 ≤ fu)
    (hk : ∀ d B ρ, wdX o most A = .inl (d, B) → RM b0 J ρ B N → wp (FR b0) ρ (k (nI d) ρ) (QW b0 N (fun un => g un d B))) :
    wp (FR b0) σ (cly (m_X12_writeDirty b0 fu (b0 + 35) (oI o) (nI most) σ) k (fun ρ => ckO b0 ρ (b0 + 35) 11 (cll (m_X12_off b0 fu (b0 + 35) ρ) (fun v ρ => some (v, ρ))))) (QW b0 N (fun un => wdY o most J A (g un))) := by
  have hw := writeDirty_wp (fu := fu) h ho hm hd hu
  unfold wdY
  cases eX : wdX o most A with
  | inl p =>
    rw [eX] at hw
    refine wp_cly (FR_good b0) hw ?_ ?_
    · intro v ρ q
      have e1 : v = nI p.1 := by have := q.1; cases this; rfl
      subst e1
      exact hk p.1 p.2 ρ eX q.2
    · intro ρ q
      exact absurd q.1 (fun e => by cases e)
  | inr B =>
    rw [eX] at hw
    refine wp_cly (FR_good b0) hw ?_ ?_
    · intro v ρ q
      exact absurd q.1 (fun e => by cases e)
    · intro ρ q
      exact off_tail q.2
theorem pubW_wp {k : tM → Option (Int32 × tM)} {f : tS → Nat → Int × tP} (h : RM b0 J σ A N)
    (hk : ∀ ρ, A 35 18 ≠ 0 → RM b0 J ρ (up2 A 35 0 0) N → wp (FR b0) ρ (k ρ) (QW b0 N (f (up2 A 35 0 0)))) :
    wp (FR b0) σ (ckO b0 σ (b0 + 35) 11 (cly (m_X12_up b0 fu (b0 + 35) (sI σ (b0 + 35) 0 0)) (fun _ ρ4 => k ρ4) (fun ρ12 => ckO b0 ρ12 (b0 + 35) 11 (cll (m_X12_off b0 fu (b0 + 35) ρ12) (fun v15 ρ16 => some (v15, ρ16)))))) (QW b0 N (upX A J f)) := by
  have L := h.ra.lay
  rw [ckR_35 L]
  have h1 : RM b0 J (sI σ (b0 + 35) 0 0) (up2 A 35 0 0) N := RM_fix (x := 0) h rfl (by decide) rfl (by decide)
  have hup := up_wp (fu := fu) h1
  rw [up2_j (show (18 : Nat) ≠ 0 by decide)] at hup
  by_cases e : A 35 18 = 0
  · have eX : upX A J f = fun _ => ofS (up2 A 35 0 0, J) := by funext un; exact if_pos e
    rw [eX]
    simp only [if_pos e] at hup
    refine wp_from (FR_good b0) (FR_sI (refO_f 35 (by omega) (by omega))) (wp_cly (FR_good b0) hup ?_ ?_)
    · intro v ρ q
      exact absurd q.1 (fun e => by cases e)
    · intro ρ q
      exact off_tail q.2
  · have eX : upX A J f = f (up2 A 35 0 0) := by funext un; exact if_neg e
    rw [eX]
    simp only [if_neg e] at hup
    refine wp_from (FR_good b0) (FR_sI (refO_f 35 (by omega) (by omega))) (wp_cly (FR_good b0) hup ?_ ?_)
    · intro v ρ q
      exact hk ρ e q.2
    · intro ρ q
      exact absurd q.1 (fun e => by cases e)
theorem fs_end {d : Nat} (h : RM b0 J σ A N) (hN : N < 1000000000) (h1 : flOk A J) (h2 : gsA A ≠ 0 → cfOk (A, J)) (hu : 1200000 ≤ fu) :
    wp (FR b0) σ (ckO b0 σ (b0 + 35) 11 (cll (m_X12_groupSize b0 fu (b0 + 35) σ) (fun v25 ρ26 => if v25 ≤ 0 then J_X12_fsync_45 b0 fu (b0 + 35) (nI d) ρ26 else ckO b0 ρ26 (b0 + 35) 11 (cly (m_X12_commit b0 fu (b0 + 35) ρ26) (fun v43 ρ44 => J_X12_fsync_45 b0 fu (b0 + 35) (nI d) ρ44) (fun ρ47 => ckO b0 ρ47 (b0 + 35) 11 (cll (m_X12_off b0 fu (b0 + 35) ρ47) (fun v50 ρ51 => some (v50, ρ51)))))))) (QW b0 N (fun un => if gsA A = 0 then flY d (A, J) else cfY un d (A, J))) := by
  have g1 := gs_lt A
  have e : ∀ un, cfY un d (A, J) = cmM (cmX A J un) (fun t => flY d t) := fun un => rfl
  rw [ckR_35 h.ra.lay, groupSize_eq h.ra (by omega), cll_some]
  simp only [e]
  obtain ⟨g, hg⟩ : ∃ g, g = gsA A := ⟨_, rfl⟩
  rw [← hg] at g1 h2 ⊢
  clear hg
  show wp (FR b0) σ (if nI g ≤ nI 0 then _ else _) _
  rw [if_l (by omega) (by omega)]
  by_cases c : g = 0
  · rw [if_pos (by omega)]
    simp only [if_pos c]
    exact fl_tail h h1 (by omega)
  · rw [if_neg (by omega), ckR_35 h.ra.lay]
    simp only [if_neg c]
    exact cf_tail (g := fun t => flY d t) h (h2 c).1 hu (fun un t ρ hun e q => fl_tail q ((h2 c).2 un t (Nat.lt_of_le_of_lt hun hN) e) (by omega))
theorem fsync_wp {x : Int32} (h : RM b0 J σ A N) (hN : N < 1000000000) (hb : A 35 18 ≠ 0 → ∀ n, hdA (up2 A 35 0 0) x = some n → n < 64 ∧ syOk2 (some n) J (up2 A 35 0 0)) (hu : 1200000 ≤ fu) : wp (FR b0) σ (m_X12_fsync b0 fu (b0 + 35) x σ) (QW b0 N (upX A J (fsY x J))) := by
  refine wp_grw (FR_good b0) (pubW_wp h (fun ρ e q => ?_))
  have hb := hb e
  generalize up2 A 35 0 0 = A at *
  have L := q.ra.lay
  rw [ckR_35 L, isHandle_eq q.ra, cll_some]
  unfold fsY
  cases eh : hdA A x with
  | none =>
    rw [if_pos (show nI (b2n (none : Option Nat).isSome) = 0 by decide)]
    exact wp_ret ((FR_good b0).1 _) ⟨0, Nat.zero_le _, rfl, q⟩
  | some n =>
    obtain ⟨n64, o1, o2⟩ := hb n eh
    obtain ⟨y, y16, rfl, y1, y2, y3⟩ := hd_some eh
    rw [if_neg (show ¬ nI (b2n (some n).isSome) = 0 by show ¬ nI 1 = 0; decide), ckR_35 L, osm_p (rfR_35_58 L), ckR_71 L, ckI_n y16 (by omega), y3, hd_rd q.ra y1 y2]
    exact wd_tail (o := some n) (most := 2000) q (fun m e => by cases e; exact n64) (by omega) o1 (by omega) (fun d B ρ2 e2 q2 => fs_end q2 hN (o2 d B e2).1 (o2 d B e2).2 hu)
theorem sync_wp (h : RM b0 J σ A N) (hN : N < 1000000000) (hb : A 35 18 ≠ 0 → syOk2 none J (up2 A 35 0 0)) (hu : 1200000 ≤ fu) : wp (FR b0) σ (m_X12_sync b0 fu (b0 + 35) σ) (QW b0 N (upX A J (snY J))) := by
  refine wp_grw (FR_good b0) (pubW_wp h (fun ρ e q => ?_))
  obtain ⟨o1, o2⟩ := hb e
  generalize up2 A 35 0 0 = A at *
  rw [ckR_35 q.ra.lay]
  exact wd_tail (o := none) (most := 2000) q (fun m e => by cases e) (by omega) o1 (by omega) (fun d B ρ2 e2 q2 => fs_end q2 hN (o2 d B e2).1 (o2 d B e2).2 hu)
theorem fdatasync_wp {x : Int32} (h : RM b0 J σ A N) (hN : N < 1000000000) (hb : A 35 18 ≠ 0 → ∀ n, hdA (up2 A 35 0 0) x = some n → n < 64 ∧ dsk (up2 A 35 0 0) 2000 ∧ ∀ d B, wdX (some n) 2000 (up2 A 35 0 0) = .inl (d, B) → B 71 = up2 A 35 0 0 71 ∧ flOk B J ∧ (B 50 n ≠ 0 → cfOk (B, J))) (hu : 1200000 ≤ fu) : wp (FR b0) σ (m_X12_fdatasync b0 fu (b0 + 35) x σ) (QW b0 N (upX A J (fdY x J))) := by
  refine wp_grw (FR_good b0) (pubW_wp h (fun ρ e q => ?_))
  have hb := hb e
  generalize up2 A 35 0 0 = A at *
  have L := q.ra.lay
  rw [ckR_35 L, isHandle_eq q.ra, cll_some]
  unfold fdY
  cases eh : hdA A x with
  | none =>
    rw [if_pos (show nI (b2n (none : Option Nat).isSome) = 0 by decide)]
    exact wp_ret ((FR_good b0).1 _) ⟨0, Nat.zero_le _, rfl, q⟩
  | some n =>
    obtain ⟨n64, o1, o2⟩ := hb n eh
    obtain ⟨y, y16, rfl, y1, y2, y3⟩ := hd_some eh
    rw [if_neg (show ¬ nI (b2n (some n).isSome) = 0 by show ¬ nI 1 = 0; decide), ckR_35 L, osm_p (rfR_35_58 L), ckR_71 L, ckI_n y16 (by omega), y3, hd_rd q.ra y1 y2]
    refine wd_tail (o := some n) (most := 2000) (g := fun un d B => if B 50 n = 0 then flY d (B, J) else cfY un d (B, J)) q (fun m e => by cases e; exact n64) (by omega) o1 (by omega) (fun d B ρ2 e2 q2 => ?_)
    obtain ⟨p1, p2, p3⟩ := o2 d B e2
    have L2 := q2.ra.lay
    have b50 := bd_50 q2.ra n
    rw [ckR_35 L2, osm_p (rfR_35_25 L2), osm_p (rfR_35_58 L2), ckR_71 L2, ckI_n y16 (by omega), hd_rd (n := n) q2.ra (by rw [p1]; exact y1) (by rw [p1]; exact y2), ckR_50 L2, ckI_n n64 (by omega), nI_cl (by omega), rd_50 q2.ra]
    show wp (FR b0) ρ2 (if nI (B 50 n) = nI 0 then _ else _) _
    rw [if_e (by omega) (by omega)]
    by_cases c : B 50 n = 0
    · rw [if_pos c]
      simp only [if_pos c]
      exact fl_tail q2 p2 (by omega)
    · rw [if_neg c]
      simp only [if_neg c]
      exact cf_tail (g := fun t => flY d t) q2 (p3 c).1 hu (fun un t ρ hun e q => fl_tail q ((p3 c).2 un t (Nat.lt_of_le_of_lt hun hN) e) (by omega))
theorem post_wp (h : RM b0 J σ A N) (hb : A 35 18 ≠ 0 → gsA (up2 A 35 0 0) ≠ 0 → cmOk (up2 A 35 0 0) J) (hu : 1200000 ≤ fu) : wp (FR b0) σ (m_X12_post b0 fu (b0 + 35) σ) (QW b0 N (upX A J (poY J))) := by
  refine wp_grw (FR_good b0) (pubW_wp h (fun ρ e q => ?_))
  have hb := hb e
  generalize up2 A 35 0 0 = A at *
  have g1 := gs_lt A
  unfold poY J_X12_post_22
  rw [ckR_35 q.ra.lay, groupSize_eq q.ra (by omega), cll_some]
  obtain ⟨g, hg⟩ : ∃ g, g = gsA A := ⟨_, rfl⟩
  rw [← hg] at g1 hb
  simp only [← hg]
  clear hg
  show wp (FR b0) ρ (if nI g ≤ nI 0 then _ else _) _
  rw [if_l (by omega) (by omega)]
  by_cases c : g = 0
  · rw [if_pos (by omega), c]
    simp only [if_pos rfl]
    exact wp_ret ((FR_good b0).1 _) ⟨0, Nat.zero_le _, rfl, q⟩
  · rw [if_neg (by omega), ckR_35 q.ra.lay]
    simp only [if_neg c]
    exact cf_tail (g := fun t => (((g : Nat) : Int), t)) q (hb c) hu (fun un t ρ _ e q => wp_ret ((FR_good b0).1 _) ⟨0, Nat.zero_le _, (iz_n _).symm, q⟩)
theorem writeBack_wp {x : Int32} (h : RM b0 J σ A N) (hb : A 35 18 ≠ 0 → dsk (up2 A 35 0 0) 2000) (hu : 1200000 ≤ fu) : wp (FR b0) σ (m_X12_writeBack b0 fu (b0 + 35) x σ) (QW b0 N (upX A J (wbY x J))) := by
  refine wp_grw (FR_good b0) (pubW_wp h (fun ρ e q => ?_))
  have hb := hb e
  generalize up2 A 35 0 0 = A at *
  unfold wbY J_X12_writeBack_24
  by_cases c : x < 0
  · rw [if_neg (Int32.not_le.mpr c)]
    simp only [if_pos c]
    exact wp_ret ((FR_good b0).1 _) ⟨0, Nat.zero_le _, rfl, q⟩
  · rw [if_pos (Int32.not_lt.mp c), ckR_35 q.ra.lay]
    simp only [if_neg c]
    obtain ⟨m, hm, rfl⟩ := nI_of c
    rw [nI_cl hm]
    exact wd_tail (o := none) (most := m) (g := fun _ d B => ((d : Int), (B, J))) q (fun m e => by cases e) hm hb (by omega) (fun d B ρ2 e2 q2 => wp_ret ((FR_good b0).1 _) ⟨0, Nat.zero_le _, (iz_n _).symm, q2⟩)
theorem apX_35 {A B : tS} (h : applyX A J = .inl B) : B 35 29 = A 35 29 ∧ B 35 30 = A 35 30 + 1 := by
  have key : ∀ m i (A B : tS) (a b : Nat), ap1 J a b m i A = .inl B → B 35 29 = A 35 29 := by
    intro m
    induction m with
    | zero =>
      intro i A B a b e
      cases e
      rfl
    | succ m ih =>
      intro i A B a b e
      unfold ap1 at e
      split at e
      · exact ih _ _ _ _ _ e
      · cases eX : verX A (J.1 44 (J.1 41 a + i)) 0 0 with
        | inl C =>
          rw [eX] at e
          have := ih _ _ _ _ _ e
          rw [this, verX_inl eX, verA_35 _ _ _ _ _ (by decide) (by decide) (by decide) (by decide)]
        | inr C =>
          rw [eX] at e
          cases e
  unfold applyX at h
  cases eX : ap1 J (A 35 30 - A 35 35) (A 35 29 - A 35 30 - 1) (J.1 42 (A 35 30 - A 35 35)) 0 A with
  | inl C =>
    rw [eX] at h
    have h : up2 C 35 30 (A 35 30 + 1) = B := by cases h; rfl
    subst h
    exact ⟨by rw [up2_j (by decide)]; exact key _ _ _ _ _ _ eX, up2_s _ _ _ _⟩
  | inr C =>
    rw [eX] at h
    cases h
theorem aq18 {n : Nat} (hn : n < 2147483648) (hu : 600000 ≤ fu) : ∀ m d f σ A, RM b0 J σ A N → A 35 29 - A 35 30 = m → d + m < 2000000 → A 35 29 < 1000000 → m < f → aqOk J n m d A → wp (FR b0) σ (L_X12_apply_18 b0 fu f (b0 + 35) (nI n) (nI d) σ) (QW b0 N (fun _ => aqL J n m d A)) := by
  intro m
  induction m with
  | zero =>
    intro d f σ A h hm hd h29 hf _
    obtain ⟨f, rfl⟩ : ∃ q, f = q + 1 := ⟨f - 1, by omega⟩
    have b30 := bd_35 h.ra 30
    unfold L_X12_apply_18 J_X12_apply_44
    rw [ltb_def, if_l hn (by omega), ckR_35 h.ra.lay, rf_29 h.ra, rf_30 h.ra, if_l (by omega) b30, if_pos (show A 35 29 ≤ A 35 30 by omega)]
    split
    · exact wp_ret ((FR_good b0).1 _) ⟨0, Nat.zero_le _, (iz_n _).symm, h⟩
    · exact wp_ret ((FR_good b0).1 _) ⟨0, Nat.zero_le _, (iz_n _).symm, h⟩
  | succ m ih =>
    intro d f σ A h hm hd h29 hf ho
    obtain ⟨f, rfl⟩ : ∃ q, f = q + 1 := ⟨f - 1, by omega⟩
    have b30 := bd_35 h.ra 30
    unfold L_X12_apply_18 J_X12_apply_44
    unfold aqL
    rw [ltb_def, if_l hn (by omega), ckR_35 h.ra.lay, rf_29 h.ra, rf_30 h.ra, if_l (by omega) b30, if_neg (show ¬ A 35 29 ≤ A 35 30 by omega)]
    by_cases c : n ≤ d
    · rw [if_pos c]
      simp only [if_pos (show n ≤ d ∨ A 35 29 ≤ A 35 30 from Or.inl c)]
      exact wp_ret ((FR_good b0).1 _) ⟨0, Nat.zero_le _, (iz_n _).symm, h⟩
    · have nc : ¬ (n ≤ d ∨ A 35 29 ≤ A 35 30) := fun r => by rcases r with r | r; exact c r; omega
      rw [if_neg c]
      simp only [if_neg nc]
      obtain ⟨o1, o2⟩ : apOk A J ∧ ∀ B, applyX A J = .inl B → aqOk J n m (d + 1) B := by
        unfold aqOk at ho
        rcases ho with r | r | r
        · exact absurd r c
        · omega
        · exact r
      obtain ⟨q1, q2, q3, q4, q5, q6⟩ := o1
      have ha := applyOne_wp (fu := fu) (K := 0) h q1 q2 (by omega) q3 q4 (by rw [Nat.zero_add]; exact q5) q6 hu
      cases eX : applyX A J with
      | inl B =>
        rw [eX] at ha
        obtain ⟨x1, x2⟩ := apX_35 eX
        refine wp_cly (FR_good b0) ha ?_ ?_
        · intro v ρ q
          rw [ltb_def, ofi]
          exact ih (d + 1) f ρ B q.2 (by omega) (by omega) (by omega) (by omega) (o2 B eX)
        · intro ρ q
          exact absurd q.1 (fun e => by cases e)
      | inr B =>
        rw [eX] at ha
        refine wp_cly (FR_good b0) ha ?_ ?_
        · intro v ρ q
          exact absurd q.1 (fun e => by cases e)
        · intro ρ q
          exact off_tail q.2
theorem applyC_wp {x : Int32} (h : RM b0 J σ A N) (hb : A 35 18 ≠ 0 → A 35 29 < 1000000 ∧ aqOk J x.toNatClampNeg (A 35 29 - A 35 30) 0 (up2 A 35 0 0)) (hu : 1200000 ≤ fu) : wp (FR b0) σ (m_X12_apply b0 fu (b0 + 35) x σ) (QW b0 N (upX A J (aqY x J))) := by
  refine wp_grw (FR_good b0) (pubW_wp h (fun ρ e q => ?_))
  obtain ⟨o1, o2⟩ := hb e
  rw [show A 35 29 = up2 A 35 0 0 35 29 from (up2_j (by decide)).symm] at o1 o2
  rw [show A 35 30 = up2 A 35 0 0 35 30 from (up2_j (by decide)).symm] at o2
  generalize up2 A 35 0 0 = A at *
  unfold aqY
  by_cases c : x < 0
  · rw [if_neg (Int32.not_le.mpr c)]
    simp only [if_pos c]
    exact wp_ret ((FR_good b0).1 _) ⟨0, Nat.zero_le _, rfl, q⟩
  · rw [if_pos (Int32.not_lt.mp c)]
    simp only [if_neg c]
    obtain ⟨m, hm, rfl⟩ := nI_of c
    rw [nI_cl hm] at o2 ⊢
    exact aq18 hm (by omega) _ 0 fu ρ A q rfl (by omega) o1 (by omega) o2
end SY
