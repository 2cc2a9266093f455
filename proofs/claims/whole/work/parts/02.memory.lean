/-! ===== THE TYPED MEMORY: what the cells from b0 on hold, as functions; its picture in the kit's worlds ===== -/
/-- the tables' words that stay true under warmer tables -/
def goodW : Cond → Bool
  | .fieldLinkNest _ _ _ _ _ _ => true
  | .methodLinkNest _ _ _ _ => true
  | .arrayOver (.object _) => true
  | .arrayOver (.array _) => true
  | .castable _ _ => true
  | .declares _ => true
  | w => goodWord w
def lwg : List Cond := lw_tbl.filter goodW
theorem aoA_moved {t : FieldType} {args a' : Array Value} {u U : State} (hvm : u.vm.Alike U.vm) (h : (Cond.arrayOver (.array t)).before args u = true) : (Cond.arrayOver (.array t)).before a' U = true := by
  obtain ⟨comp, c, k, h1, h2, h3, h4, h5⟩ := arrayOverA_spec h
  obtain ⟨k', hk', he⟩ := hvm.2.2 _ _ h3
  have hi : (U.vm.classes.findIdx? fun (x : Class) => match x.kind with | .array component _ => component == comp | _ => false) = some c := by
    rw [hvm.findIdx?_eq _ (fun _ => rfl)]
    exact h2
  have hkind : k'.kind = .array comp (.array t) := by rw [he]; exact h4
  have f1 : U.vm.findClass (FieldType.array t).toString = some comp := by rw [hvm.findClass]; exact h1
  have f2 : U.vm.findClass ("[" ++ (FieldType.array t).toString) = some c := by rw [hvm.findClass]; exact h5
  unfold Cond.before Cond.holds
  simp only [Cond.value]
  rw [f1, Option.bind_some]
  refine (congrArg (fun o : Option Nat => (o.bind (fun c => (U.vm.classes[c]?).map fun (k : Class) => match k.kind with | .array _ ty => decide (ty = FieldType.array t) && decide (U.vm.findClass ("[" ++ (FieldType.array t).toString) = some c) | _ => false) == some true)) hi).trans ?_
  simp [hk', hkind, f2]
theorem goodW_at {args a' : Array Value} {s U : State} {w : Cond} (hW : s.WarmedH U.vm) (hg : goodW w = true) (h : w.before args s = true) : w.before a' U = true := by
  unfold goodW at hg
  split at hg
  · exact va_Nw.use rfl (va_Nw.warmF hW (va_Nw.of rfl h))
  · exact va_Nw.use rfl (va_Nw.warmM hW (va_Nw.of rfl h))
  · exact va_AO.use (va_AO.moved hW.alike (va_AO.of h))
  · exact aoA_moved hW.alike h
  · exact va_Nw.use rfl (va_Nw.warmC hW (va_Nw.of rfl h))
  · exact va_Nw.use rfl (va_Nw.warmD hW (va_Nw.of rfl h))
  · exact word_at hW (good_of_word hg) h
theorem lwg_at {args a' : Array Value} {s U : State} (hW : s.WarmedH U.vm) (h : ∀ w ∈ lwg, w.before args s = true) : ∀ w ∈ lwg, w.before a' U = true := fun w hw => goodW_at hW (List.mem_filter.mp hw).2 (h w hw)
/-- ((cells, slots), kind of a cell: its class or (element type, length); ints, longs, references by cell and place) -/
abbrev tM : Type := (Nat × Nat) × (Nat → Nat ⊕ (Nat × Nat)) × (Nat → Nat → Int32) × (Nat → Nat → Int64) × (Nat → Nat → Option Nat)
def tn (σ : tM) : Nat := σ.1.1
def tu (σ : tM) : Nat := σ.1.2
def tk (σ : tM) : Nat → Nat ⊕ (Nat × Nat) := σ.2.1
def tI (σ : tM) : Nat → Nat → Int32 := σ.2.2.1
def tL (σ : tM) : Nat → Nat → Int64 := σ.2.2.2.1
def tA (σ : tM) : Nat → Nat → Option Nat := σ.2.2.2.2
def tup {α : Type} (f : Nat → Nat → α) (a j : Nat) (v : α) : Nat → Nat → α := fun x y => if x = a then (if y = j then v else f x y) else f x y
def sI (σ : tM) (a j : Nat) (v : Int32) : tM := (σ.1, σ.2.1, tup σ.2.2.1 a j v, σ.2.2.2.1, σ.2.2.2.2)
def sL (σ : tM) (a j : Nat) (v : Int64) : tM := (σ.1, σ.2.1, σ.2.2.1, tup σ.2.2.2.1 a j v, σ.2.2.2.2)
def sA (σ : tM) (a j : Nat) (v : Option Nat) : tM := (σ.1, σ.2.1, σ.2.2.1, σ.2.2.2.1, tup σ.2.2.2.2 a j v)
/-- a whole row of a cell anew -/
def sIr (σ : tM) (a : Nat) (f : Nat → Int32) : tM := (σ.1, σ.2.1, va_up σ.2.2.1 a f, σ.2.2.2.1, σ.2.2.2.2)
def sLr (σ : tM) (a : Nat) (f : Nat → Int64) : tM := (σ.1, σ.2.1, σ.2.2.1, va_up σ.2.2.2.1 a f, σ.2.2.2.2)
/-- a new cell at address a, of kind k and n slots, all zeros -/
def sN (σ : tM) (a : Nat) (k : Nat ⊕ (Nat × Nat)) (n : Nat) : tM := ((σ.1.1 + 1, σ.1.2 + n), va_up σ.2.1 a k, va_up σ.2.2.1 a (fun _ => 0), va_up σ.2.2.2.1 a (fun _ => 0), va_up σ.2.2.2.2 a (fun _ => none))
theorem tup_row {α : Type} (f : Nat → Nat → α) (a j : Nat) (v : α) : tup f a j v a = va_up (f a) j v := by
  funext y; simp [tup, va_up]
theorem tup_ne {α : Type} {f : Nat → Nat → α} {a j b : Nat} {v : α} (h : b ≠ a) : tup f a j v b = f b := by
  funext y; simp [tup, h]
/-- classes by their places in the list of classes -/
abbrev vwC2 : List vw_C := vwCl ++ [("java/lang/IllegalStateException", TX11, 0)]
def tyC : Nat → Nat → FieldType := fun ci => match ci with
  | 0 => tyX0 | 1 => tyX1 | 2 => tyX2 | 3 => tyX3 | 4 => tyX4 | 5 => tyX5 | 6 => tyX6 | 7 => tyX7 | 8 => tyX8 | 9 => tyX9 | 10 => tyX10 | 11 => tyX12 | _ => fun _ => .int
def nF : Nat → Nat := fun ci => match ci with
  | 0 => 15 | 1 => 18 | 2 => 4 | 3 => 5 | 4 => 2 | 5 => 17 | 6 => 2 | 7 => 8 | 8 => 3 | 9 => 5 | 10 => 10 | 11 => 60 | _ => 0
def tV (σ : tM) (a j : Nat) (t : FieldType) : Value := match t with
  | .long => .long (tL σ a j) | .object _ => va_rf (tA σ a j) | .array _ => va_rf (tA σ a j) | _ => .int (tI σ a j)
def tF (σ : tM) (ci a : Nat) : List Value := (List.range (nF ci)).map fun j => tV σ a j (tyC ci j)
def tR (σ : tM) (t a : Nat) : (Nat → Int32) ⊕ (Nat → Int64) ⊕ (Nat → UInt32) ⊕ (Nat → UInt64) ⊕ (Nat → Option Nat) := match t with
  | 3 => .inr (.inl (tL σ a)) | 4 => .inr (.inr (.inr (.inr (tA σ a)))) | 5 => .inr (.inr (.inr (.inr (tA σ a)))) | _ => .inl (tI σ a)
def tE (aC : Nat → ClassId) (σ : tM) (a : Nat) : va_E := match tk σ a with
  | .inl ci => .inr (ci, tF σ ci a)
  | .inr q => .inl (aC q.1, q.2, tR σ q.1 a)
def tW (aC : Nat → ClassId) (b0 : Nat) (σ : tM) : va_W := (List.range (tn σ)).map fun k => (b0 + k, tE aC σ (b0 + k))
abbrev tT (aC : Nat → ClassId) : List (ClassId × FieldType) := [(aC 0, .int), (aC 1, .byte), (aC 2, .boolean), (aC 3, .long), (aC 4, .object "SyncTree$Row"), (aC 5, .array .byte)]
def tRel (D : va_G) (aC : Nat → ClassId) (b0 : Nat) (σ : tM) (H : Heap) : Prop := va_P D vwC2 (tW aC b0 σ) H ∧ H.size = b0 + tn σ
/-- a is one of the cells -/
def tIn (b0 : Nat) (σ : tM) (a : Nat) : Prop := b0 ≤ a ∧ a < b0 + tn σ
theorem tW_get {aC : Nat → ClassId} {b0 : Nat} {σ : tM} {a : Nat} (h : tIn b0 σ a) : (tW aC b0 σ)[a - b0]? = some (a, tE aC σ a) := by
  obtain ⟨h1, h2⟩ := h
  have h3 : a - b0 < tn σ := by omega
  have h4 : b0 + (a - b0) = a := by omega
  simp [tW, List.getElem?_map, List.getElem?_range h3, h4]
theorem tW_of {aC : Nat → ClassId} {b0 : Nat} {σ : tM} {k : Nat} {q : Nat × va_E} (h : (tW aC b0 σ)[k]? = some q) : k < tn σ ∧ q = (b0 + k, tE aC σ (b0 + k)) := by
  rw [tW, List.getElem?_map, Option.map_eq_some_iff] at h
  obtain ⟨x, hx, e⟩ := h
  have hk : k < tn σ := by
    have := (List.getElem?_eq_some_iff.mp hx).1
    simpa using this
  rw [List.getElem?_range hk] at hx
  cases hx
  exact ⟨hk, e.symm⟩
theorem tW_D {aC : Nat → ClassId} {b0 : Nat} {σ : tM} : va_D (fun q => b0 ≤ q) (tW aC b0 σ) := by
  refine ⟨fun i j p q h1 h2 h3 => ?_, fun k q h => ?_⟩
  · have e1 := (tW_of h1).2
    have e2 := (tW_of h2).2
    rw [e1, e2] at h3
    dsimp only at h3
    omega
  · rw [(tW_of h).2]; exact Nat.le_add_right _ _
theorem tW_set {aC : Nat → ClassId} {b0 : Nat} {σ τ : tM} {a : Nat} (h : tIn b0 σ a) (hn : tn τ = tn σ) (ho : ∀ b, b ≠ a → tE aC τ b = tE aC σ b) : (tW aC b0 σ).set (a - b0) (a, tE aC τ a) = tW aC b0 τ := by
  obtain ⟨h1, h2⟩ := h
  apply List.ext_getElem?
  intro i
  rw [List.getElem?_set]
  by_cases hi : a - b0 = i
  · subst hi
    have h3 : a - b0 < tn σ := by omega
    have h4 : b0 + (a - b0) = a := by omega
    simp [tW, List.getElem?_map, h3, hn, List.getElem?_range h3, h4]
  · rw [if_neg hi]
    simp only [tW, List.getElem?_map, hn]
    by_cases hk : i < tn σ
    · rw [List.getElem?_range hk]
      simp only [Option.map_some]
      rw [ho (b0 + i) (by omega)]
    · have : (List.range (tn σ))[i]? = none := List.getElem?_eq_none (by simpa using hk)
      rw [this]; rfl
theorem tW_push {aC : Nat → ClassId} {b0 : Nat} {σ τ : tM} (hn : tn τ = tn σ + 1) (ho : ∀ b, b0 ≤ b → b < b0 + tn σ → tE aC τ b = tE aC σ b) : tW aC b0 σ ++ [(b0 + tn σ, tE aC τ (b0 + tn σ))] = tW aC b0 τ := by
  simp only [tW, hn, List.range_succ, List.map_append, List.map_cons, List.map_nil]
  congr 1
  apply List.map_congr_left
  intro k hk
  rw [ho (b0 + k) (Nat.le_add_right _ _) (by have := List.mem_range.mp hk; omega)]
theorem tE_o {aC : Nat → ClassId} {σ : tM} {a ci : Nat} (h : tk σ a = .inl ci) : tE aC σ a = .inr (ci, tF σ ci a) := by simp [tE, h]
theorem tE_r {aC : Nat → ClassId} {σ : tM} {a t n : Nat} (h : tk σ a = .inr (t, n)) : tE aC σ a = .inl (aC t, n, tR σ t a) := by simp [tE, h]
theorem tE_congr {aC : Nat → ClassId} {σ τ : tM} {a : Nat} (hk : tk τ a = tk σ a) (hI : tI τ a = tI σ a) (hL : tL τ a = tL σ a) (hA : tA τ a = tA σ a) : tE aC τ a = tE aC σ a := by
  have hV : ∀ j t, tV τ a j t = tV σ a j t := fun j t => by cases t <;> simp [tV, hI, hL, hA]
  have hF : ∀ ci, tF τ ci a = tF σ ci a := fun ci => by simp [tF, hV]
  have hR : ∀ t, tR τ t a = tR σ t a := fun t => by
    unfold tR
    split <;> simp [hI, hL, hA]
  simp only [tE, hk, hF, hR]
theorem tF_len (σ : tM) (ci a : Nat) : (tF σ ci a).length = nF ci := by simp [tF]
theorem tF_get (σ : tM) (ci a : Nat) {j : Nat} (hj : j < nF ci) : (tF σ ci a)[j]? = some (tV σ a j (tyC ci j)) := by
  simp [tF, List.getElem?_map, List.getElem?_range hj]
theorem tF_set {σ τ : tM} {ci a j : Nat} {v : Value} (hj : j < nF ci) (hv : v = tV τ a j (tyC ci j)) (ho : ∀ k, k ≠ j → ∀ t, tV τ a k t = tV σ a k t) : (tF σ ci a).set j v = tF τ ci a := by
  apply List.ext_getElem?
  intro i
  rw [List.getElem?_set]
  by_cases hi : j = i
  · subst hi
    rw [if_pos rfl, if_pos (by rw [tF_len]; exact hj), tF_get τ ci a hj, hv]
  · rw [if_neg hi]
    by_cases hk : i < nF ci
    · rw [tF_get σ ci a hk, tF_get τ ci a hk, ho i (fun h => hi h.symm)]
    · rw [List.getElem?_eq_none (by rw [tF_len]; omega), List.getElem?_eq_none (by rw [tF_len]; omega)]
