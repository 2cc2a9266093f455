/-! ===== PURE: the journal's collect ===== -/
def p15 (C : tS) (c : Nat) : Bool := C 15 c != 0
def p16 (C : tS) (c : Nat) : Bool := C 16 c != 0
/-- a transaction in the making: T touched, R revoked; t and r of them are there -/
def MKt (b0 : Nat) (σ : tM) (x T R t r : Nat) (tl rl z : Nat → Nat) (i0 : Nat → Int32) : Prop :=
  (tk σ x = .inl 7 ∧ tk σ (x + 1) = .inr (0, T) ∧ tk σ (x + 2) = .inr (4, T) ∧ tk σ (x + 3) = .inr (0, R)) ∧
  (tA σ x 4 = some (x + 1) ∧ tA σ x 5 = some (x + 2) ∧ tA σ x 6 = some (x + 3) ∧ tA σ x 7 = none ∧ tI σ x = i0) ∧
  (b0 + 74 ≤ x ∧ x + 3 < b0 + tn σ ∧ ¬ refO b0 σ x ∧ ¬ refO b0 σ (x + 1) ∧ ¬ refO b0 σ (x + 2) ∧ ¬ refO b0 σ (x + 3)) ∧
  (∀ k, k < t → tI σ (x + 1) k = nI (tl k) ∧ tA σ (x + 2) k = some (z k)) ∧ (∀ k, k < r → tI σ (x + 3) k = nI (rl k))
/-- rows that stand somewhere keep their words -/
def KW (D D' : tD) : Prop := (∀ o j y, isP o j → dP D o j = some y → dW D' y = dW D y) ∧ (∀ n k, dL D < n → n ≤ dH D → k < dT D 8 n → dW D' (dX D 1 n k) = dW D (dX D 1 n k))
/-- the same transactions and places -/
def sP (D D' : tD) : Prop := dP D' = dP D ∧ dT D' = dT D ∧ dX D' = dX D ∧ dL D' = dL D ∧ dH D' = dH D
/-- what is listed so far -/
def LSt (C : tS) (D : tD) (c t : Nat) (tl z : Nat → Nat) : Prop := ∀ k, k < t → C 15 (tl k) ≠ 0 ∧ 1 ≤ tl k ∧ tl k < c ∧ cn (p15 C) 0 (tl k) = k ∧ ∀ j, j < 32 → dW D (z k) j = C 11 (tl k * 32 + j)
def LSr (C : tS) (c r : Nat) (rl : Nat → Nat) : Prop := ∀ k, k < r → C 16 (rl k) ≠ 0 ∧ 1 ≤ rl k ∧ rl k < c ∧ cn (p16 C) 0 (rl k) = k
section COL
variable {b0 fu : Nat} {σ τ ρ : tM} {C C' : tS} {D D' D'' : tD} {pl : Nat → Nat × Nat} {mo z tl rl : Nat → Nat} {m n x T R t r c : Nat} {i0 : Nat → Int32}
theorem KW_r (D : tD) : KW D D := ⟨fun _ _ _ _ _ => rfl, fun _ _ _ _ _ => rfl⟩
theorem sP_r (D : tD) : sP D D := ⟨rfl, rfl, rfl, rfl, rfl⟩
theorem sP_t (h : sP D D') (k : sP D' D'') : sP D D'' := ⟨k.1.trans h.1, k.2.1.trans h.2.1, k.2.2.1.trans h.2.2.1, k.2.2.2.1.trans h.2.2.2.1, k.2.2.2.2.trans h.2.2.2.2⟩
theorem KW_t (h : KW D D') (s : sP D D') (k : KW D' D'') : KW D D'' := by
  obtain ⟨s1, s2, s3, s4, s5⟩ := s
  refine ⟨fun o j y a b => ?_, fun n q a b e => ?_⟩
  · rw [k.1 o j y a (by rw [s1]; exact b), h.1 o j y a b]
  · have := k.2 n q (by rw [s4]; exact a) (by rw [s5]; exact b) (by rw [s2]; exact e)
    rw [s3] at this
    rw [this, h.2 n q a b e]
theorem CG.zne (h : CG b0 σ C D mo z m) {k k' : Nat} (hk : k < m) (hk' : k' < m) (ne : k ≠ k') : z k ≠ z k' := by
  obtain ⟨-, -, -, pl, -, gz⟩ := h
  intro e
  have a := (gz k hk).2
  have b := (gz k' hk').2
  rw [e, b] at a
  exact ne (congrArg Prod.snd a).symm
theorem CG.zP (h : CG b0 σ C D mo z m) {k : Nat} (hk : k < m) : (∀ o j y, isP o j → dP D o j = some y → y ≠ z k) ∧ (∀ n q, dL D < n → n ≤ dH D → q < dT D 8 n → mo n ≤ q → dX D 1 n q ≠ z k) := by
  obtain ⟨-, -, -, pl, ⟨g1, -, -, g8⟩, gz⟩ := h
  have a := (gz k hk).2
  refine ⟨fun o j y q e z' => ?_, fun n q n1 n2 n3 n4 z' => ?_⟩
  · have b := ((g1 o j q).2 y e).2
    rw [z', a] at b
    have := congrArg Prod.fst b
    simp at this
    rcases q with q | q | q <;> omega
  · have b := ((g8 n n1 n2).2.2.2.2.2.1 q n3).2.2.2 n4
    rw [z', a] at b
    have := congrArg Prod.fst b
    simp at this
    omega
theorem CG.zrow (h : CG b0 σ C D mo z m) {k : Nat} (hk : k < m) : isRow b0 σ (z k) (dW D (z k)) := by
  obtain ⟨-, -, -, pl, -, gz⟩ := h
  exact (gz k hk).1
/-- a cell's words into a row -/
theorem save_c {a : Nat} (h : CG b0 σ C D mo z m) (hr : isRow b0 σ a (dW D a)) (hc : c < 2034) : ∃ τ, m_X5_save b0 fu (b0 + 10) (nI c) (some a) σ = some ((), τ) ∧ CG b0 τ C (upW D a (fun j => if j < 32 then C 11 (c * 32 + j) else dW D a j)) mo z m ∧ FC b0 σ τ ∧ tn τ = tn σ ∧ ∀ y, tA τ y = tA σ y ∧ tI τ y = tI σ y ∧ tk τ y = tk σ y := by
  have L := h.lay
  have hr0 := hr
  obtain ⟨q1, q2, q3, q4, q5, q6⟩ := hr
  have hF : ∀ j, va_cpy (tL σ (b0 + 11)) (tL σ (a + 1)) (c * 32) 0 32 j = lN ((if j < 32 then C 11 (c * 32 + j) else dW D a j)) ∧ (if j < 32 then C 11 (c * 32 + j) else dW D a j) < 18446744073709551616 := by
    intro j
    by_cases g : j < 32
    · rw [pk_cpy_in (by omega) (by omega), if_pos g, cd_11 h.ca, Nat.sub_zero]
      exact ⟨rfl, cb_11 h.ca _⟩
    · rw [pk_cpy_out (by omega), if_neg g]
      exact q6 j
  refine ⟨sLr σ (a + 1) (va_cpy (tL σ (b0 + 11)) (tL σ (a + 1)) (c * 32) 0 32), ?_, CG_W h hr0 hF, FC_Lr hr0, rfl, fun y => ⟨rfl, rfl, rfl⟩⟩
  unfold m_X5_save J_X5_save_29
  have e32 : nI c * (32 : Int32) = nI (c * 32) := pk_mul c 32
  rw [e32]
  show grw σ (if nI c < nI 0 then _ else if nI 2034 ≤ nI c then _ else _) = _
  rw [if_t (by omega) (by omega), if_neg (by omega), if_l (by omega) (by omega), if_neg (by omega), ckC_10 L, osm_p (rfC_10_0 L), omt_some, ckO_row hr0, osm_p q3, ckC_11 L, ckR_p q2 ⟨by omega, q4.2.1⟩]
  have ckc : ∀ (k : Option (Unit × tM)), ckC (nI (c * 32)) 0 32 65536 32 k = k := fun k => by
    unfold ckC
    rw [nI_cl (by omega), show (0 : Int32).toNatClampNeg = 0 from rfl, show (32 : Int32).toNatClampNeg = 32 from rfl, if_pos ⟨⟨nI_pos (by omega), by decide, by decide⟩, by omega, by omega⟩]
  rw [ckc, nI_cl (by omega), show (0 : Int32).toNatClampNeg = 0 from rfl, show (32 : Int32).toNatClampNeg = 32 from rfl]
  exact grw_p rfl (Nat.le_refl _) (Nat.le_refl _)
/-- an object that nothing leads to yet -/
theorem CG_obj {y : Nat} (h : CG b0 σ C D mo z m) (h1 : tn τ = tn σ) (h2 : tu τ = tu σ) (h3 : tk τ = tk σ) (hs : ∀ a, a ≠ y → same σ τ a) (hy : b0 + 74 ≤ y) (hr : ¬ refO b0 σ y) (k1 : tk σ y ≠ .inl 4) (k2 : tk σ y ≠ .inr (3, 32)) (hT : ∀ n, dL D < n → n ≤ dH D → y ≠ dT D 0 n ∧ y ≠ dT D 5 n ∧ y ≠ dT D 6 n ∧ y ≠ dT D 7 n) : CG b0 τ C D mo z m ∧ F6 b0 σ τ := by
  have fc : FC b0 σ τ := ⟨by omega, by omega, fun a ha => hs a (fun e => by
    rcases ha with q | q
    · exact hr (e ▸ q)
    · omega)⟩
  obtain ⟨c1, c2, c3, pl, c4, gz⟩ := h
  obtain ⟨d1, d2⟩ := DG_same (τ := τ) c4 (by omega) (fun a _ q => (FC_ref fc a).mp q) (fun o j q => by rw [(hs (b0 + o) (by rcases q with q | q | q <;> omega)).2.2.2]) (by rw [(hs (b0 + 20) (by omega)).2.2.2]; exact ⟨rfl, rfl, rfl⟩) (fun a _ _ _ _ q => hs a (fun e => by
    rcases q with q | q | ⟨n, q1, q2, q3⟩
    · exact k1 (e ▸ q)
    · exact k2 (e ▸ q)
    · have := hT n q1 q2
      omega))
  exact ⟨⟨CA_same c1 (layC_33 c1.lay (by omega) (fun o ho => hs _ (by omega))) (fun o ho => (hs _ (by omega)).2.1) (hs _ (by omega)).2.2.1, FC_rf fc c2, by rw [FC_psi fc, h1, h2]; exact c3, pl, d1, fun k hk => ⟨d2 _ _ (gz k hk).1, (gz k hk).2⟩⟩, fc, by rw [(hs (b0 + 20) (by omega)).2.2.2]⟩
theorem MKt_fr (h : MKt b0 σ x T R t r tl rl z i0) (fc : FC b0 σ τ) (hs : ∀ y, x ≤ y → y ≤ x + 3 → tA τ y = tA σ y ∧ tI τ y = tI σ y ∧ tk τ y = tk σ y) : MKt b0 τ x T R t r tl rl z i0 := by
  obtain ⟨h1, h2, h3, h4, h5⟩ := h
  have s0 := hs x (Nat.le_refl _) (by omega)
  have s1 := hs (x + 1) (by omega) (by omega)
  have s2 := hs (x + 2) (by omega) (by omega)
  have s3 := hs (x + 3) (by omega) (by omega)
  have f1 := fc.1
  unfold MKt
  rw [s0.1, s0.2.1, s0.2.2, s1.2.1, s1.2.2, s2.1, s2.2.2, s3.2.1, s3.2.2]
  exact ⟨h1, h2, ⟨h3.1, by omega, fun q => h3.2.2.1 ((FC_ref fc _).mp q), fun q => h3.2.2.2.1 ((FC_ref fc _).mp q), fun q => h3.2.2.2.2.1 ((FC_ref fc _).mp q), fun q => h3.2.2.2.2.2 ((FC_ref fc _).mp q)⟩, h4, h5⟩
theorem cn_1 {p : Nat → Bool} (c : Nat) : cn p 0 (c + 1) = cn p 0 c + (if p c = true then 1 else 0) := by
  have := cn_snoc (p := p) c 0
  rwa [Nat.zero_add] at this
theorem cn_lt {p : Nat → Bool} {c N : Nat} (hc : c < N) (hp : p c = true) : cn p 0 c < cn p 0 N := by
  obtain ⟨d, rfl⟩ : ∃ d, N = c + 1 + d := ⟨N - (c + 1), by omega⟩
  have : ∀ d, cn p 0 c < cn p 0 (c + 1 + d) := fun d => by
    induction d with
    | zero =>
      show cn p 0 c < cn p 0 (c + 1)
      rw [cn_1, if_pos hp]
      omega
    | succ d ih =>
      show cn p 0 c < cn p 0 (c + 1 + d + 1)
      rw [cn_1]
      omega
  exact this d
end COL
