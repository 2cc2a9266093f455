/-! ===== NEW ARRAYS ===== -/
section TN
variable {p : Program} {l : Launch} {e : Env} {s : State} {m : MethodId} {args : Array Value} {below : List Frame} {meth : Method} {c : Code} {nL fr lo : Nat} {D : va_G} {aC : Nat → ClassId} {b0 : Nat} {σ0 : tM} {r : Option Value ⊕ String} {τ : tM} {pc : Nat} {lv : List (Nat × Value)} {st : List Value} {σ : tM} {own : String} {cc : ByteArray} {ret : Option FieldType}
theorem zx_fresh {H1 : Heap} {q : Nat} {E : va_E} (q1 : va_P D vwC2 (tW aC b0 σ ++ [(q, E)]) H1) (q2 : va_D (fun q => b0 ≤ q) (tW aC b0 σ ++ [(q, E)])) (hz : H1.size ≤ b0 + tn σ + 1) : q = b0 + tn σ := by
  have hq0 : (tW aC b0 σ ++ [(q, E)])[tn σ]? = some (q, E) := by
    rw [List.getElem?_append_right (by simp [tW])]
    simp [tW]
  have hq1 : q < H1.size := (q1 _ _ hq0).lt
  have hq2 : b0 ≤ q := q2.2 _ _ hq0
  by_cases hlt : q < b0 + tn σ
  · have hi : tIn b0 σ q := ⟨hq2, hlt⟩
    have hg := tW_get (aC := aC) hi
    have hg2 : (tW aC b0 σ ++ [(q, E)])[q - b0]? = some (q, tE aC σ q) := by
      rw [List.getElem?_append_left (by simp [tW]; omega)]
      exact hg
    have := q2.1 _ _ _ _ hg2 hq0 rfl
    omega
  · omega
theorem sN_ar {a t n u : Nat} {z : (Nat → Int32) ⊕ (Nat → Int64) ⊕ (Nat → UInt32) ⊕ (Nat → UInt64) ⊕ (Nat → Option Nat)} (hz : tR (sN σ a (.inr (t, n)) u) t a = z) : tE aC (sN σ a (.inr (t, n)) u) a = .inl (aC t, n, z) := by
  rw [tE_r (show tk (sN σ a (.inr (t, n)) u) a = .inr (t, n) by simp [tk, sN, va_up]), hz]
theorem zx_newI (C : tCx p l s m args meth c own cc nL ret D aC b0 σ0) {n : Int32} (hw : Cond.arrayClass .int ∈ lwg) (hn : ¬ n < 0) (hm : n.toNatClampNeg ≤ 1000000) (hd : decode cc pc = .ok (.newarray .int, 2))
    (k : tX p l e s m args below meth c nL fr lo D aC b0 σ0 r τ (pc + 2) lv (.ref (b0 + tn σ) :: st) (sN σ (b0 + tn σ) (.inr (0, n.toNatClampNeg)) n.toNatClampNeg)) : tX p l e s m args below meth c nL fr lo D aC b0 σ0 r τ pc lv (.int n :: st) σ := by
  have g1 : tn σ + 1 ≤ tn τ := k.1.1
  have g2 : tu σ + n.toNatClampNeg ≤ tu τ := k.1.2
  refine ⟨⟨by omega, by omega⟩, fun h1 h2 H locs ls hl hP hS => ?_⟩
  obtain ⟨hx, hb, -, -, hown, hts, -, ⟨hK, hO⟩, hsz⟩ := C
  refine va_newa (atype := .int) (N' := n.toNatClampNeg) (a0 := (n.toNatClampNeg, .inl (fun _ => 0))) hx hb (hts _ hw) (ty := .int) rfl hK hP tW_D hS (fun q hq => by show b0 ≤ q; have h9 : s.heap.size ≤ q := hq; omega) (fun cA => rfl) hn rfl (by simp only [componentBytes]; omega) (by show _ ≤ tn τ - tn σ0; omega) (by show _ ≤ tu τ - tu σ0; omega) hd fun q cA H1 hK1 q1 q2 q3 => ?_
  refine zx_sized fun hz => ?_
  have hq3 : q = b0 + tn σ := zx_fresh q1 q2 (by omega)
  subst hq3
  have hcA : cA = aC 0 := Option.some.inj ((hK1.2 6 (cA, .int) rfl).2.symm.trans (hK.2 0 (aC 0, .int) rfl).2)
  subst hcA
  have hw : tW aC b0 σ ++ [(b0 + tn σ, (Sum.inl (aC 0, n.toNatClampNeg, .inl (fun _ => 0)) : va_E))] = tW aC b0 (sN σ (b0 + tn σ) (.inr (0, n.toNatClampNeg)) n.toNatClampNeg) := by
    rw [← sN_ar (aC := aC) (σ := σ) (a := b0 + tn σ) (t := 0) (n := n.toNatClampNeg) (u := n.toNatClampNeg) (by simp [tR, tI, tL, sN, va_up])]
    exact tW_push rfl (fun b _ hb => sN_old (by omega))
  rw [hw] at q1
  have e1 : tn σ - tn σ0 + 1 = tn (sN σ (b0 + tn σ) (.inr (0, n.toNatClampNeg)) n.toNatClampNeg) - tn σ0 := by show _ = tn σ + 1 - tn σ0; omega
  have e2 : tu σ - tu σ0 + n.toNatClampNeg = tu (sN σ (b0 + tn σ) (.inr (0, n.toNatClampNeg)) n.toNatClampNeg) - tu σ0 := by show _ = tu σ + n.toNatClampNeg - tu σ0; omega
  rw [e1, e2]
  exact k.2 (by show _ ≤ tn σ + 1; omega) (by show _ ≤ tu σ + n.toNatClampNeg; omega) H1 locs ls hl q1 q3
theorem zx_newB (C : tCx p l s m args meth c own cc nL ret D aC b0 σ0) {n : Int32} (hw : Cond.arrayClass .byte ∈ lwg) (hn : ¬ n < 0) (hm : n.toNatClampNeg ≤ 1000000) (hd : decode cc pc = .ok (.newarray .byte, 2))
    (k : tX p l e s m args below meth c nL fr lo D aC b0 σ0 r τ (pc + 2) lv (.ref (b0 + tn σ) :: st) (sN σ (b0 + tn σ) (.inr (1, n.toNatClampNeg)) n.toNatClampNeg)) : tX p l e s m args below meth c nL fr lo D aC b0 σ0 r τ pc lv (.int n :: st) σ := by
  have g1 : tn σ + 1 ≤ tn τ := k.1.1
  have g2 : tu σ + n.toNatClampNeg ≤ tu τ := k.1.2
  refine ⟨⟨by omega, by omega⟩, fun h1 h2 H locs ls hl hP hS => ?_⟩
  obtain ⟨hx, hb, -, -, hown, hts, -, ⟨hK, hO⟩, hsz⟩ := C
  refine va_newa (atype := .byte) (N' := n.toNatClampNeg) (a0 := (n.toNatClampNeg, .inl (fun _ => 0))) hx hb (hts _ hw) (ty := .byte) rfl hK hP tW_D hS (fun q hq => by show b0 ≤ q; have h9 : s.heap.size ≤ q := hq; omega) (fun cA => rfl) hn rfl (by simp only [componentBytes]; omega) (by show _ ≤ tn τ - tn σ0; omega) (by show _ ≤ tu τ - tu σ0; omega) hd fun q cA H1 hK1 q1 q2 q3 => ?_
  refine zx_sized fun hz => ?_
  have hq3 : q = b0 + tn σ := zx_fresh q1 q2 (by omega)
  subst hq3
  have hcA : cA = aC 1 := Option.some.inj ((hK1.2 6 (cA, .byte) rfl).2.symm.trans (hK.2 1 (aC 1, .byte) rfl).2)
  subst hcA
  have hw : tW aC b0 σ ++ [(b0 + tn σ, (Sum.inl (aC 1, n.toNatClampNeg, .inl (fun _ => 0)) : va_E))] = tW aC b0 (sN σ (b0 + tn σ) (.inr (1, n.toNatClampNeg)) n.toNatClampNeg) := by
    rw [← sN_ar (aC := aC) (σ := σ) (a := b0 + tn σ) (t := 1) (n := n.toNatClampNeg) (u := n.toNatClampNeg) (by simp [tR, tI, tL, sN, va_up])]
    exact tW_push rfl (fun b _ hb => sN_old (by omega))
  rw [hw] at q1
  have e1 : tn σ - tn σ0 + 1 = tn (sN σ (b0 + tn σ) (.inr (1, n.toNatClampNeg)) n.toNatClampNeg) - tn σ0 := by show _ = tn σ + 1 - tn σ0; omega
  have e2 : tu σ - tu σ0 + n.toNatClampNeg = tu (sN σ (b0 + tn σ) (.inr (1, n.toNatClampNeg)) n.toNatClampNeg) - tu σ0 := by show _ = tu σ + n.toNatClampNeg - tu σ0; omega
  rw [e1, e2]
  exact k.2 (by show _ ≤ tn σ + 1; omega) (by show _ ≤ tu σ + n.toNatClampNeg; omega) H1 locs ls hl q1 q3
theorem zx_newZ (C : tCx p l s m args meth c own cc nL ret D aC b0 σ0) {n : Int32} (hw : Cond.arrayClass .boolean ∈ lwg) (hn : ¬ n < 0) (hm : n.toNatClampNeg ≤ 1000000) (hd : decode cc pc = .ok (.newarray .boolean, 2))
    (k : tX p l e s m args below meth c nL fr lo D aC b0 σ0 r τ (pc + 2) lv (.ref (b0 + tn σ) :: st) (sN σ (b0 + tn σ) (.inr (2, n.toNatClampNeg)) n.toNatClampNeg)) : tX p l e s m args below meth c nL fr lo D aC b0 σ0 r τ pc lv (.int n :: st) σ := by
  have g1 : tn σ + 1 ≤ tn τ := k.1.1
  have g2 : tu σ + n.toNatClampNeg ≤ tu τ := k.1.2
  refine ⟨⟨by omega, by omega⟩, fun h1 h2 H locs ls hl hP hS => ?_⟩
  obtain ⟨hx, hb, -, -, hown, hts, -, ⟨hK, hO⟩, hsz⟩ := C
  refine va_newa (atype := .boolean) (N' := n.toNatClampNeg) (a0 := (n.toNatClampNeg, .inl (fun _ => 0))) hx hb (hts _ hw) (ty := .boolean) rfl hK hP tW_D hS (fun q hq => by show b0 ≤ q; have h9 : s.heap.size ≤ q := hq; omega) (fun cA => rfl) hn rfl (by simp only [componentBytes]; omega) (by show _ ≤ tn τ - tn σ0; omega) (by show _ ≤ tu τ - tu σ0; omega) hd fun q cA H1 hK1 q1 q2 q3 => ?_
  refine zx_sized fun hz => ?_
  have hq3 : q = b0 + tn σ := zx_fresh q1 q2 (by omega)
  subst hq3
  have hcA : cA = aC 2 := Option.some.inj ((hK1.2 6 (cA, .boolean) rfl).2.symm.trans (hK.2 2 (aC 2, .boolean) rfl).2)
  subst hcA
  have hw : tW aC b0 σ ++ [(b0 + tn σ, (Sum.inl (aC 2, n.toNatClampNeg, .inl (fun _ => 0)) : va_E))] = tW aC b0 (sN σ (b0 + tn σ) (.inr (2, n.toNatClampNeg)) n.toNatClampNeg) := by
    rw [← sN_ar (aC := aC) (σ := σ) (a := b0 + tn σ) (t := 2) (n := n.toNatClampNeg) (u := n.toNatClampNeg) (by simp [tR, tI, tL, sN, va_up])]
    exact tW_push rfl (fun b _ hb => sN_old (by omega))
  rw [hw] at q1
  have e1 : tn σ - tn σ0 + 1 = tn (sN σ (b0 + tn σ) (.inr (2, n.toNatClampNeg)) n.toNatClampNeg) - tn σ0 := by show _ = tn σ + 1 - tn σ0; omega
  have e2 : tu σ - tu σ0 + n.toNatClampNeg = tu (sN σ (b0 + tn σ) (.inr (2, n.toNatClampNeg)) n.toNatClampNeg) - tu σ0 := by show _ = tu σ + n.toNatClampNeg - tu σ0; omega
  rw [e1, e2]
  exact k.2 (by show _ ≤ tn σ + 1; omega) (by show _ ≤ tu σ + n.toNatClampNeg; omega) H1 locs ls hl q1 q3
theorem zx_newJ (C : tCx p l s m args meth c own cc nL ret D aC b0 σ0) {n : Int32} (hw : Cond.arrayClass .long ∈ lwg) (hn : ¬ n < 0) (hm : n.toNatClampNeg ≤ 1000000) (hd : decode cc pc = .ok (.newarray .long, 2))
    (k : tX p l e s m args below meth c nL fr lo D aC b0 σ0 r τ (pc + 2) lv (.ref (b0 + tn σ) :: st) (sN σ (b0 + tn σ) (.inr (3, n.toNatClampNeg)) n.toNatClampNeg)) : tX p l e s m args below meth c nL fr lo D aC b0 σ0 r τ pc lv (.int n :: st) σ := by
  have g1 : tn σ + 1 ≤ tn τ := k.1.1
  have g2 : tu σ + n.toNatClampNeg ≤ tu τ := k.1.2
  refine ⟨⟨by omega, by omega⟩, fun h1 h2 H locs ls hl hP hS => ?_⟩
  obtain ⟨hx, hb, -, -, hown, hts, -, ⟨hK, hO⟩, hsz⟩ := C
  refine va_newa (atype := .long) (N' := n.toNatClampNeg) (a0 := (n.toNatClampNeg, .inr (.inl (fun _ => 0)))) hx hb (hts _ hw) (ty := .long) rfl hK hP tW_D hS (fun q hq => by show b0 ≤ q; have h9 : s.heap.size ≤ q := hq; omega) (fun cA => rfl) hn rfl (by simp only [componentBytes]; omega) (by show _ ≤ tn τ - tn σ0; omega) (by show _ ≤ tu τ - tu σ0; omega) hd fun q cA H1 hK1 q1 q2 q3 => ?_
  refine zx_sized fun hz => ?_
  have hq3 : q = b0 + tn σ := zx_fresh q1 q2 (by omega)
  subst hq3
  have hcA : cA = aC 3 := Option.some.inj ((hK1.2 6 (cA, .long) rfl).2.symm.trans (hK.2 3 (aC 3, .long) rfl).2)
  subst hcA
  have hw : tW aC b0 σ ++ [(b0 + tn σ, (Sum.inl (aC 3, n.toNatClampNeg, .inr (.inl (fun _ => 0))) : va_E))] = tW aC b0 (sN σ (b0 + tn σ) (.inr (3, n.toNatClampNeg)) n.toNatClampNeg) := by
    rw [← sN_ar (aC := aC) (σ := σ) (a := b0 + tn σ) (t := 3) (n := n.toNatClampNeg) (u := n.toNatClampNeg) (by simp [tR, tI, tL, sN, va_up])]
    exact tW_push rfl (fun b _ hb => sN_old (by omega))
  rw [hw] at q1
  have e1 : tn σ - tn σ0 + 1 = tn (sN σ (b0 + tn σ) (.inr (3, n.toNatClampNeg)) n.toNatClampNeg) - tn σ0 := by show _ = tn σ + 1 - tn σ0; omega
  have e2 : tu σ - tu σ0 + n.toNatClampNeg = tu (sN σ (b0 + tn σ) (.inr (3, n.toNatClampNeg)) n.toNatClampNeg) - tu σ0 := by show _ = tu σ + n.toNatClampNeg - tu σ0; omega
  rw [e1, e2]
  exact k.2 (by show _ ≤ tn σ + 1; omega) (by show _ ≤ tu σ + n.toNatClampNeg; omega) H1 locs ls hl q1 q3
theorem zx_newR (C : tCx p l s m args meth c own cc nL ret D aC b0 σ0) {n : Int32} {idx : Nat} (hcl : Cond.classLink own idx "SyncTree$Row" ∈ lwg) (hw : Cond.arrayOver (.object "SyncTree$Row") ∈ lwg) (hn : ¬ n < 0) (hm : n.toNatClampNeg ≤ 1000000) (hd : decode cc pc = .ok (.anewarray idx, 3))
    (k : tX p l e s m args below meth c nL fr lo D aC b0 σ0 r τ (pc + 3) lv (.ref (b0 + tn σ) :: st) (sN σ (b0 + tn σ) (.inr (4, n.toNatClampNeg)) n.toNatClampNeg)) : tX p l e s m args below meth c nL fr lo D aC b0 σ0 r τ pc lv (.int n :: st) σ := by
  have g1 : tn σ + 1 ≤ tn τ := k.1.1
  have g2 : tu σ + n.toNatClampNeg ≤ tu τ := k.1.2
  refine ⟨⟨by omega, by omega⟩, fun h1 h2 H locs ls hl hP hS => ?_⟩
  obtain ⟨hx, hb, -, -, hown, hts, -, ⟨hK, hO⟩, hsz⟩ := C
  refine va_newq (N' := n.toNatClampNeg) hx hb hown (hts _ hcl) (va_AO.of (hts _ hw)) hK hP tW_D hS (fun q hq => by show b0 ≤ q; have h9 : s.heap.size ≤ q := hq; omega) hn rfl (by omega) (by show _ ≤ tn τ - tn σ0; omega) (by show _ ≤ tu τ - tu σ0; omega) hd fun q cA H1 hK1 q1 q2 q3 => ?_
  refine zx_sized fun hz => ?_
  have hq3 : q = b0 + tn σ := zx_fresh q1 q2 (by omega)
  subst hq3
  have hcA : cA = aC 4 := by
    obtain ⟨_, _, _, _, _, a1⟩ := (hK1.2 6 (cA, .object "SyncTree$Row") rfl).2
    obtain ⟨_, _, _, _, _, a2⟩ := (hK.2 4 (aC 4, .object "SyncTree$Row") rfl).2
    exact Option.some.inj (a1.symm.trans a2)
  subst hcA
  have hw : tW aC b0 σ ++ [(b0 + tn σ, (Sum.inl (aC 4, n.toNatClampNeg, .inr (.inr (.inr (.inr (fun _ => none))))) : va_E))] = tW aC b0 (sN σ (b0 + tn σ) (.inr (4, n.toNatClampNeg)) n.toNatClampNeg) := by
    rw [← sN_ar (aC := aC) (σ := σ) (a := b0 + tn σ) (t := 4) (n := n.toNatClampNeg) (u := n.toNatClampNeg) (by simp [tR, tA, sN, va_up])]
    exact tW_push rfl (fun b _ hb => sN_old (by omega))
  rw [hw] at q1
  have e1 : tn σ - tn σ0 + 1 = tn (sN σ (b0 + tn σ) (.inr (4, n.toNatClampNeg)) n.toNatClampNeg) - tn σ0 := by show _ = tn σ + 1 - tn σ0; omega
  have e2 : tu σ - tu σ0 + n.toNatClampNeg = tu (sN σ (b0 + tn σ) (.inr (4, n.toNatClampNeg)) n.toNatClampNeg) - tu σ0 := by show _ = tu σ + n.toNatClampNeg - tu σ0; omega
  rw [e1, e2]
  exact k.2 (by show _ ≤ tn σ + 1; omega) (by show _ ≤ tu σ + n.toNatClampNeg; omega) H1 locs ls hl q1 q3
end TN
