/-! ===== ROWS THAT TOUCH THE MEMORY ===== -/
/-- what the tables say of a class: its words are there, its fields' types and names -/
def tCl (ci : Nat) : Prop := ∃ q : vw_C, vwC2[ci]? = some q ∧ q.2.2 = nF ci ∧ (∀ w ∈ u_ws q.1 q.2.1 q.2.2, w ∈ lwg) ∧ (∀ k, k < q.2.2 → parseFieldDescriptor (q.2.1 k).2.2.1 = some (tyC ci k)) ∧ (∀ a, a < q.2.2 → ∀ b, b < q.2.2 → a ≠ b → (q.2.1 a).2.1 ≠ (q.2.1 b).2.1) ∧ ∀ k, k < q.2.2 → tyC ci k ≠ .float ∧ tyC ci k ≠ .double
def tcl (ci : Nat) : vw_C := (vwC2[ci]?).getD ("", TX11, 0)
/-- entry idx of own's constants names field j of the class ci -/
def tFl (own : String) (idx ci j : Nat) : Prop := j < nF ci ∧ (Cond.fieldLink own idx ((tcl ci).2.1 j).1 ((tcl ci).2.1 j).2.1 ((tcl ci).2.1 j).2.2.1 ∈ lwg ∨ ∃ host, Cond.fieldLinkNest own idx ((tcl ci).2.1 j).1 ((tcl ci).2.1 j).2.1 ((tcl ci).2.1 j).2.2.1 host ∈ lwg)
theorem tCl.at {ci : Nat} (h : tCl ci) : vwC2[ci]? = some ((tcl ci).1, (tcl ci).2.1, nF ci) ∧ (∀ w ∈ u_ws (tcl ci).1 (tcl ci).2.1 (nF ci), w ∈ lwg) ∧ (∀ k, k < nF ci → parseFieldDescriptor ((tcl ci).2.1 k).2.2.1 = some (tyC ci k)) ∧ (∀ a, a < nF ci → ∀ b, b < nF ci → a ≠ b → ((tcl ci).2.1 a).2.1 ≠ ((tcl ci).2.1 b).2.1) ∧ ∀ k, k < nF ci → tyC ci k ≠ .float ∧ tyC ci k ≠ .double := by
  obtain ⟨q, h1, h2, h3, h4, h5, h6⟩ := h
  have e : tcl ci = q := by unfold tcl; rw [h1]; rfl
  rw [← h2, e]
  exact ⟨h1, h3, h4, h5, h6⟩
section TY
variable {p : Program} {l : Launch} {e : Env} {s : State} {m : MethodId} {args : Array Value} {below : List Frame} {meth : Method} {c : Code} {nL fr lo : Nat} {D : va_G} {aC : Nat → ClassId} {b0 : Nat} {σ0 : tM} {r : Option Value ⊕ String} {τ : tM} {pc : Nat} {lv : List (Nat × Value)} {st : List Value} {σ : tM} {own : String} {cc : ByteArray} {ret : Option FieldType}
theorem zx_sized {R : Room} {H : Heap} {locs : List Loc} {cells slots : Nat} {Q : State → Prop} {g : JFrame} (k : H.size ≤ s.heap.size + cells → W p l e R s m args below meth c H locs cells slots Q g) : W p l e R s m args below meth c H locs cells slots Q g :=
  fun T hT X => k (by rw [← hT]; exact X.heapSize) T hT X
theorem zx_size {H : Heap} {locs : List Loc} (C : s.heap.size = b0 + tn σ0) (h0 : tn σ0 ≤ tn σ) (hP : va_P D vwC2 (tW aC b0 σ) H) (hS : va_S (fun q => b0 ≤ q) s.heap H locs) (hz : H.size ≤ s.heap.size + (tn σ - tn σ0)) : H.size = b0 + tn σ := by
  have h1 : H.size ≤ b0 + tn σ := by omega
  have h2 : b0 + tn σ ≤ H.size := by
    by_cases h : tn σ = 0
    · have := hS.1
      omega
    · have hi : tIn b0 σ (b0 + (tn σ - 1)) := ⟨by omega, by omega⟩
      have := (hP _ _ (tW_get (aC := aC) hi)).lt
      dsimp only at this
      omega
  omega
theorem zx_get (C : tCx p l s m args meth c own cc nL ret D aC b0 σ0) {a ci j idx : Nat} (hc : tCl ci) (hk : tk σ a = .inl ci) (hi : tIn b0 σ a) (F : tFl own idx ci j) (hd : decode cc pc = .ok (.getfield idx, 3)) (v : Value) (hv : tV σ a j (tyC ci j) = v)
    (k : tX p l e s m args below meth c nL fr lo D aC b0 σ0 r τ (pc + 3) lv (v :: st) σ) : tX p l e s m args below meth c nL fr lo D aC b0 σ0 r τ pc lv (.ref a :: st) σ := by
  subst hv
  refine ⟨k.1, fun h1 h2 H locs ls hl hP hS => ?_⟩
  obtain ⟨hx, hb, -, -, hown, hts, -, ⟨hK, hO⟩, -⟩ := C
  obtain ⟨c1, c2, -, -, -⟩ := hc.at
  obtain ⟨hj, hF⟩ := F
  have he := tW_get (aC := aC) hi
  rw [tE_o hk] at he
  rcases hF with hF | ⟨host, hF⟩
  · exact va_get hx hb hts c2 hown hK hP (a - b0) he c1 j hj (hts _ hF) (fun _ h => h) (tF_get σ ci a hj) hd (k.2 h1 h2 H locs ls hl hP hS)
  · exact va_getN hx hb hts c2 hown hK hP (a - b0) he c1 j hj (hts _ hF) (fun _ h => h) (tF_get σ ci a hj) hd (k.2 h1 h2 H locs ls hl hP hS)
/-- a field set: ρ is the memory behind it -/
theorem zx_put (C : tCx p l s m args meth c own cc nL ret D aC b0 σ0) {a ci j idx : Nat} {v : Value} {ρ : tM} (hc : tCl ci) (hk : tk σ a = .inl ci) (hi : tIn b0 σ a) (F : tFl own idx ci j) (hfin : ((tcl ci).2.1 j).2.2.2 = false) (hn : narrow (tyC ci j) v = v) (hf : fits (tyC ci j) v = true)
    (hρ : ρ.1 = σ.1 ∧ ρ.2.1 = σ.2.1 ∧ v = tV ρ a j (tyC ci j) ∧ (∀ k, k ≠ j → ∀ t, tV ρ a k t = tV σ a k t) ∧ ∀ b, b ≠ a → tE aC ρ b = tE aC σ b) (hd : decode cc pc = .ok (.putfield idx, 3))
    (k : tX p l e s m args below meth c nL fr lo D aC b0 σ0 r τ (pc + 3) lv st ρ) : tX p l e s m args below meth c nL fr lo D aC b0 σ0 r τ pc lv (v :: .ref a :: st) σ := by
  obtain ⟨e1, e2, e3, e4, e5⟩ := hρ
  have en : tn ρ = tn σ := by unfold tn; rw [e1]
  have eu : tu ρ = tu σ := by unfold tu; rw [e1]
  refine ⟨by rw [← en, ← eu]; exact k.1, fun h1 h2 H locs ls hl hP hS => ?_⟩
  obtain ⟨hx, hb, -, -, hown, hts, -, ⟨hK, hO⟩, -⟩ := C
  obtain ⟨c1, c2, c3, c4, -⟩ := hc.at
  obtain ⟨hj, hF⟩ := F
  have he := tW_get (aC := aC) hi
  rw [tE_o hk] at he
  have hw : (tW aC b0 σ).set (a - b0) (a, .inr (ci, (tF σ ci a).set j v)) = tW aC b0 ρ := by
    rw [tF_set hj e3 e4]
    have := tW_set (aC := aC) hi en e5
    rwa [tE_o (show tk ρ a = .inl ci by unfold tk; rw [e2]; exact hk)] at this
  have kk : ∀ (H1 : Heap) (locs1 : List Loc), va_P D vwC2 ((tW aC b0 σ).set (a - b0) (a, .inr (ci, (tF σ ci a).set j v))) H1 → va_D (fun q => b0 ≤ q) ((tW aC b0 σ).set (a - b0) (a, .inr (ci, (tF σ ci a).set j v))) → va_S (fun q => b0 ≤ q) s.heap H1 locs1 → W p l e (tRm fr lo σ0 τ) s m args below meth c H1 locs1 (tn σ - tn σ0) (tu σ - tu σ0) (vx_MQ below (tQc D aC b0 r τ) (tXC D aC b0 r τ) args s (tn τ - tn σ0) (tu τ - tu σ0) (fun q => b0 ≤ q)) (F0 m (pc + 3) ls st) := by
    intro H1 locs1 q1 _ q3
    rw [hw] at q1
    rw [← en, ← eu]
    exact k.2 (by rw [en]; exact h1) (by rw [eu]; exact h2) H1 locs1 ls hl q1 q3
  rcases hF with hF | ⟨host, hF⟩
  · exact va_put hx hb hts c2 (tyC ci) c3 c4 hown hK hP tW_D hS (a - b0) he c1 j hj (hts _ hF) (fun _ h => h) hfin (c3 j hj) hn hf (by rw [tF_len]; exact hj) hd kk
  · exact va_putN hx hb hts c2 (tyC ci) c3 c4 hown hK hP tW_D hS (a - b0) he c1 j hj (hts _ hF) (fun _ h => h) hfin (c3 j hj) hn hf (by rw [tF_len]; exact hj) hd kk
/-- a final field set in a constructor of its class -/
theorem zx_putF (C : tCx p l s m args meth c own cc nL ret D aC b0 σ0) (hin : meth.name = "<init>") {a ci j idx : Nat} {v : Value} {ρ : tM} (hc : tCl ci) (hk : tk σ a = .inl ci) (hi : tIn b0 σ a) (hj : j < nF ci) (hF : Cond.fieldLink own idx ((tcl ci).2.1 j).1 ((tcl ci).2.1 j).2.1 ((tcl ci).2.1 j).2.2.1 ∈ lwg) (hfin : ((tcl ci).2.1 j).2.2.2 = true) (hdecl : ((tcl ci).2.1 j).1 = own) (hn : narrow (tyC ci j) v = v) (hf : fits (tyC ci j) v = true)
    (hρ : ρ.1 = σ.1 ∧ ρ.2.1 = σ.2.1 ∧ v = tV ρ a j (tyC ci j) ∧ (∀ k, k ≠ j → ∀ t, tV ρ a k t = tV σ a k t) ∧ ∀ b, b ≠ a → tE aC ρ b = tE aC σ b) (hd : decode cc pc = .ok (.putfield idx, 3))
    (k : tX p l e s m args below meth c nL fr lo D aC b0 σ0 r τ (pc + 3) lv st ρ) : tX p l e s m args below meth c nL fr lo D aC b0 σ0 r τ pc lv (v :: .ref a :: st) σ := by
  obtain ⟨e1, e2, e3, e4, e5⟩ := hρ
  have en : tn ρ = tn σ := by unfold tn; rw [e1]
  have eu : tu ρ = tu σ := by unfold tu; rw [e1]
  refine ⟨by rw [← en, ← eu]; exact k.1, fun h1 h2 H locs ls hl hP hS => ?_⟩
  obtain ⟨hx, hb, -, -, hown, hts, -, ⟨hK, hO⟩, -⟩ := C
  obtain ⟨c1, c2, c3, c4, -⟩ := hc.at
  have he := tW_get (aC := aC) hi
  rw [tE_o hk] at he
  have hw : (tW aC b0 σ).set (a - b0) (a, .inr (ci, (tF σ ci a).set j v)) = tW aC b0 ρ := by
    rw [tF_set hj e3 e4]
    have := tW_set (aC := aC) hi en e5
    rwa [tE_o (show tk ρ a = .inl ci by unfold tk; rw [e2]; exact hk)] at this
  refine va_putF hx hb hts c2 (tyC ci) c3 c4 hown hK hP tW_D hS (a - b0) he c1 j hj (hts _ hF) (fun _ h => h) hfin hin hdecl (c3 j hj) hn hf (by rw [tF_len]; exact hj) hd fun H1 locs1 q1 _ q3 => ?_
  rw [hw] at q1
  rw [← en, ← eu]
  exact k.2 (by rw [en]; exact h1) (by rw [eu]; exact h2) H1 locs1 ls hl q1 q3
theorem sI_ok {a j ci : Nat} {x : Int32} (ht : ∀ ρ : tM, tV ρ a j (tyC ci j) = .int (tI ρ a j)) : (sI σ a j x).1 = σ.1 ∧ (sI σ a j x).2.1 = σ.2.1 ∧ Value.int x = tV (sI σ a j x) a j (tyC ci j) ∧ (∀ k, k ≠ j → ∀ t, tV (sI σ a j x) a k t = tV σ a k t) ∧ ∀ b, b ≠ a → tE aC (sI σ a j x) b = tE aC σ b := by
  refine ⟨rfl, rfl, ?_, fun k hk t => ?_, fun b hb => tE_congr rfl (tup_ne hb) rfl rfl⟩
  · rw [ht]; simp [tI, sI, tup]
  · cases t <;> simp [tV, tI, tL, tA, sI, tup, hk]
theorem sL_ok {a j ci : Nat} {x : Int64} (ht : ∀ ρ : tM, tV ρ a j (tyC ci j) = .long (tL ρ a j)) : (sL σ a j x).1 = σ.1 ∧ (sL σ a j x).2.1 = σ.2.1 ∧ Value.long x = tV (sL σ a j x) a j (tyC ci j) ∧ (∀ k, k ≠ j → ∀ t, tV (sL σ a j x) a k t = tV σ a k t) ∧ ∀ b, b ≠ a → tE aC (sL σ a j x) b = tE aC σ b := by
  refine ⟨rfl, rfl, ?_, fun k hk t => ?_, fun b hb => tE_congr rfl rfl (tup_ne hb) rfl⟩
  · rw [ht]; simp [tL, sL, tup]
  · cases t <;> simp [tV, tI, tL, tA, sL, tup, hk]
theorem sA_ok {a j ci : Nat} {x : Option Nat} (ht : ∀ ρ : tM, tV ρ a j (tyC ci j) = va_rf (tA ρ a j)) : (sA σ a j x).1 = σ.1 ∧ (sA σ a j x).2.1 = σ.2.1 ∧ va_rf x = tV (sA σ a j x) a j (tyC ci j) ∧ (∀ k, k ≠ j → ∀ t, tV (sA σ a j x) a k t = tV σ a k t) ∧ ∀ b, b ≠ a → tE aC (sA σ a j x) b = tE aC σ b := by
  refine ⟨rfl, rfl, ?_, fun k hk t => ?_, fun b hb => tE_congr rfl rfl rfl (tup_ne hb)⟩
  · rw [ht]; simp [tA, sA, tup]
  · cases t <;> simp [tV, tI, tL, tA, sA, tup, hk]
end TY
