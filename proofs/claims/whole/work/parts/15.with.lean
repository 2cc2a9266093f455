/-! ===== METHODS WITH A HANDLER ===== -/
def cly {α β : Type} (x : Option ((α ⊕ Unit) × tM)) (k : α → tM → Option β) (kx : tM → Option β) : Option β := match x with
  | some (.inl v, ρ) => k v ρ
  | some (.inr _, ρ) => kx ρ
  | none => none
theorem cly_e {α β : Type} {x : Option ((α ⊕ Unit) × tM)} {k : α → tM → Option β} {kx : tM → Option β} {z : β} (h : cly x k kx = some z) : (∃ v ρ, x = some (.inl v, ρ) ∧ k v ρ = some z) ∨ ∃ ρ, x = some (.inr (), ρ) ∧ kx ρ = some z := by
  match x, h with
  | some (.inl v, ρ), h => exact Or.inl ⟨v, ρ, rfl, h⟩
  | some (.inr (), ρ), h => exact Or.inr ⟨ρ, rfl, h⟩
  | none, h => cases h
section TCW
variable {p : Program} {l : Launch} {e : Env} {s : State} {m : MethodId} {args : Array Value} {below : List Frame} {meth : Method} {c : Code} {nL fr lo : Nat} {D : va_G} {aC : Nat → ClassId} {b0 : Nat} {σ0 : tM} {r : Option Value ⊕ String} {τ : tM} {pc : Nat} {lv : List (Nat × Value)} {st : List Value} {σ : tM} {own : String} {cc : ByteArray} {ret : Option FieldType}
/-- the words of a method with a handler -/
def tYH (y : MethodName) (bytes : ByteArray) (maxL : Nat) (rt : Option FieldType) (hh : List (Nat × Nat × Nat × Nat)) (n : Nat) : Prop :=
  Cond.codeWith y bytes maxL rt hh ∈ lwg ∧ Cond.initialized y.cls ∈ lwg ∧ (y.cls ≠ "java/lang/invoke/MethodHandle" ∧ y.cls ≠ "java/lang/invoke/VarHandle") ∧ (parseMethodDescriptor y.desc).map (fun d => d.parameters.length) = some n
theorem tYH.words {y : MethodName} {bytes : ByteArray} {maxL n : Nat} {rt : Option FieldType} {hh : List (Nat × Nat × Nat × Nat)} (h : tYH y bytes maxL rt hh n) (hts : ∀ w ∈ lwg, w.before args s = true) : ∀ w ∈ Cond.codeWith y bytes maxL rt hh :: lwg, ∀ (a' : Array Value) (U : State), s.WarmedH U.vm → w.before a' U = true := by
  intro w hw a' U hW
  refine lwg_at hW hts w ?_
  rcases List.mem_cons.mp hw with e | h9
  · rw [e]; exact h.1
  · exact h9
theorem tYH.sig {y : MethodName} {bytes : ByteArray} {maxL n : Nat} {rt : Option FieldType} {hh : List (Nat × Nat × Nat × Nat)} (h : tYH y bytes maxL rt hh n) : ∀ sig, parseMethodDescriptor y.desc = some sig → n = sig.parameters.length := fun sig hs => by
  have h9 := h.2.2.2
  rw [hs] at h9
  exact (Option.some.inj h9).symm
theorem zx_callVH (C : tCx p l s m args meth c own cc nL ret D aC b0 σ0) {y : MethodName} {bytes : ByteArray} {maxL n idx f2 l2 ci b : Nat} {rt : Option FieldType} {hh : List (Nat × Nat × Nat × Nat)} {ρ : tM} {v : Option Value} (As : List Value) (hc : tCl ci) (hk : tk σ b = .inl ci) (hi : tIn b0 σ b) (hY : tYH y bytes maxL rt hh n) (hl0 : Cond.methodLink own idx y ∈ lwg) (hin : Cond.instanceMethod y ∈ lwg) (hse : Cond.selects (tcl ci).1 y y ∈ lwg)
    (hM : tMt l D aC b0 y (Cond.codeWith y bytes maxL rt hh) f2 l2 (.ref b :: As) σ (.inl v) ρ) (hf : f2 + 1 ≤ fr) (hlo : 8 + (maxL + 11) + l2 ≤ lo) (hn : As.length = n) (hw : (st.map fun v => v.category).sum ≤ 8) (hd : decode cc pc = .ok (.invokevirtual idx, 3))
    {st0 : List Value} (hst : st0 = As.reverse ++ .ref b :: st) (k : tX p l e s m args below meth c nL fr lo D aC b0 σ0 r τ (pc + 3) lv (v.toList ++ st) ρ) : tX p l e s m args below meth c nL fr lo D aC b0 σ0 r τ pc lv st0 σ := by
  have gk := k.1
  have gm := hM.1
  refine ⟨⟨by omega, by omega⟩, fun h1 h2 H locs ls hl hP hS => zx_sized fun hz => ?_⟩
  have h9 := zx_size C.2.2.2.2.2.2.2.2 h1 hP hS hz
  obtain ⟨hx, hb, hrt, hml, hown, hts, hlk, ⟨hK, hO⟩, hsz⟩ := id C
  have he := tW_get (aC := aC) hi
  rw [tE_o hk] at he
  obtain ⟨c1, -⟩ := hc.at
  refine zx_back C h1 h2 gm hl hS k (vx_runVX (As := As) (b := b) ⟨hx, hb, hml, hown, hts⟩ hM.2 ⟨⟨rfl, rfl, hf, hlo, hY.words hts, List.mem_cons_self⟩, hts _ hY.1, hts _ hY.2.1, hY.2.2.1, hY.sig, hts _ hl0, hts _ hin, hts _ hse⟩ ⟨tPc_blind, va_recv (q := ((tcl ci).1, (tcl ci).2.1, nF ci)) hK hP c1 he, fun U hU hW => ⟨rfl, ⟨by rw [hU]; exact hP, by rw [hU]; exact h9⟩, tWd.moved ⟨hK, hO⟩ hW (fun q hq => by rw [hU]; exact hS.2.1 q (by omega) (Nat.not_le.mpr hq))⟩⟩ rfl hn hl.1 hst (lv_room hw) hd ⟨by show _ ≤ tn τ - tn σ0; omega, by show _ ≤ tu τ - tu σ0; omega⟩)
theorem zx_callSH (C : tCx p l s m args meth c own cc nL ret D aC b0 σ0) {y : MethodName} {bytes : ByteArray} {maxL n idx f2 l2 : Nat} {rt : Option FieldType} {hh : List (Nat × Nat × Nat × Nat)} {ρ : tM} {v : Option Value} (As : List Value) (hY : tYH y bytes maxL rt hh n) (hl0 : Cond.methodLink own idx y ∈ lwg) (hin : Cond.static y ∈ lwg)
    (hM : tMt l D aC b0 y (Cond.codeWith y bytes maxL rt hh) f2 l2 As σ (.inl v) ρ) (hf : f2 + 1 ≤ fr) (hlo : 8 + (maxL + 11) + l2 ≤ lo) (hn : As.length = n) (hw : (st.map fun v => v.category).sum ≤ 8) (hd : decode cc pc = .ok (.invokestatic idx, 3))
    {st0 : List Value} (hst : st0 = As.reverse ++ st) (k : tX p l e s m args below meth c nL fr lo D aC b0 σ0 r τ (pc + 3) lv (v.toList ++ st) ρ) : tX p l e s m args below meth c nL fr lo D aC b0 σ0 r τ pc lv st0 σ := by
  have gk := k.1
  have gm := hM.1
  refine ⟨⟨by omega, by omega⟩, fun h1 h2 H locs ls hl hP hS => zx_sized fun hz => ?_⟩
  have h9 := zx_size C.2.2.2.2.2.2.2.2 h1 hP hS hz
  obtain ⟨hx, hb, hrt, hml, hown, hts, hlk, ⟨hK, hO⟩, hsz⟩ := id C
  refine zx_back C h1 h2 gm hl hS k (vx_runSX (As := As) ⟨hx, hb, hml, hown, hts⟩ hM.2 ⟨⟨rfl, rfl, hf, hlo, hY.words hts, List.mem_cons_self⟩, hts _ hY.1, hts _ hY.2.1, hY.2.2.1, hY.sig, hts _ hl0, hts _ hin⟩ ⟨tPc_blind, fun U hU hW => ⟨rfl, ⟨by rw [hU]; exact hP, by rw [hU]; exact h9⟩, tWd.moved ⟨hK, hO⟩ hW (fun q hq => by rw [hU]; exact hS.2.1 q (by omega) (Nat.not_le.mpr hq))⟩⟩ rfl hn hl.1 hst (lv_room hw) hd ⟨by show _ ≤ tn τ - tn σ0; omega, by show _ ≤ tu τ - tu σ0; omega⟩)
theorem tMt_ofH {y : MethodName} {maxL fr lo : Nat} {rt : Option FieldType} {hh : List (Nat × Nat × Nat × Nat)} {cc : ByteArray} {av : List Value} (hy : plainName y.cls = true) (hlen : (lg_sl av).length ≤ maxL)
    (g : tn σ ≤ tn τ ∧ tu σ ≤ tu τ)
    (body : ∀ p e s m below meth c, tCx p l s m av.toArray meth c y.cls cc maxL rt D aC b0 σ → c.exceptionTable.toList = tableOf hh → meth.name = y.name → tX p l e s m av.toArray below meth c maxL fr lo D aC b0 σ r τ 0 (lv_args 0 av) [] σ) : tMt l D aC b0 y (Cond.codeWith y cc maxL rt hh) fr lo av σ r τ := by
  refine ⟨g, vx_ofWH (cc := cc) (maxL := maxL) (ret := rt) (hh := hh) hy rfl ?_⟩
  intro p e s m args below meth c s₁ B hml hv
  obtain ⟨rfl, hR, hK⟩ := hv
  have hts := atoms_spec (ws := Cond.codeWith y cc maxL rt hh :: lwg) B.pre
  have htab := vx_table (x := y) B (hts _ List.mem_cons_self)
  have hown : s.vm.findClass y.cls = some m.cls := findClass_of_methodNamed B.named
  have hin : meth.name = y.name := (name_of_methodNamed B.named B.method).1
  have C : tCx p l s m av.toArray meth c y.cls cc maxL rt D aC b0 σ := ⟨B.exec, B.bytes, B.returns, hml, hown, fun w hw => hts w (List.mem_cons_of_mem _ hw), B.notSynchronized, hK, hR.2⟩
  have K := (body p e s m below meth c C htab hin).2 (Nat.le_refl _) (Nat.le_refl _) s.heap []
  have hl := lv_entry av (n := maxL) hlen
  rw [lg_entry_eq]
  have K2 := K _ hl hR.1 va_S.rf
  rw [Nat.sub_self, Nat.sub_self] at K2
  exact K2
end TCW
