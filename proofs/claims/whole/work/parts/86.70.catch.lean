section Rows9
variable {p : Program} {l : Launch} {e : Env} {R : Room} {s : State} {m : MethodId} {args : Array Value} {below : List Frame} {meth : Method} {c : Code} {H : Heap} {locs : List Loc} {cells slots : Nat} {Q : State → Prop}
variable {mc ms : Nat} {free : Addr → Prop} {A0 A1 : Nat → Prop} {H0 : Heap} {a : Array Value} {pc : Nat} {ls : Array Slot} {st0 rest : List Value}
/-- caught by the row x of this method's table; the rows ahead don't take it -/
theorem vx_catch {own name : String} {E : String} {ce : Cell} {q : Addr} (hown : s.vm.findClass own = some m.cls) (pre : List ExceptionTableEntry) (x : ExceptionTableEntry) (suf : List ExceptionTableEntry) (hsplit : c.exceptionTable.toList = pre ++ x :: suf)
    (hpass : ∀ z ∈ pre, covers z pc = false ∨ (z.catchType ≠ 0 ∧ ∃ nm : String, (Cond.classLink own z.catchType nm).before args s = true ∧ va_Nc E nm s)) (hx : covers x pc = true) (h0 : x.catchType ≠ 0)
    (hlink : (Cond.classLink own x.catchType name).before args s = true) (hcast : (Cond.castable E name).before args s = true) (hcell : H[q]? = some ce) (hv : ce.vm = .none) (hcl : s.vm.findClass E = some ce.cls)
    (kk : W p l e R s m args below meth c H locs cells slots Q (F0 m x.handlerPc ls [.ref q])) : vx_W p l e R s m args below meth c H locs cells slots Q (F0 m pc ls rest) q := by
  intro T hT X
  have hpl : e.platform.magicAccessors = ({} : Platform).magicAccessors := by rw [X.admits.platform]
  obtain ⟨c3, c4, hc3, hc4, hasg⟩ := Cond.castable_spec hcast
  cases Option.some.inj (hc3.symm.trans hcl)
  obtain ⟨c5, hc5, hcl5⟩ := Cond.classLink_spec hown hlink e.platform hpl
  cases Option.some.inj (hc4.symm.trans hc5)
  obtain ⟨vm', X', st⟩ := Jvm.Stand.thenCaughtThrough X q (g := F0 m pc ls rest) rfl (Steps.refl _) (by rw [hT]; exact hcell) (by rw [hv]; rfl) (by obtain ⟨k9, h9, -⟩ := Vm.findClass_spec hcl; exact ⟨k9, h9⟩) pre x suf hsplit
    (fun z hz => by
      rcases hpass z hz with h | ⟨hz0, nm, hl1, hn1⟩
      · exact Or.inl h
      · obtain ⟨c6, hc6, hcl6⟩ := Cond.classLink_spec hown hl1 e.platform hpl
        obtain ⟨a8, b8, h1, h2, h3⟩ := hn1
        cases Option.some.inj (h1.symm.trans hcl)
        cases Option.some.inj (h2.symm.trans hc6)
        exact Or.inr ⟨hz0, _, hcl6, h3⟩) hx (Or.inr ⟨h0, c4, hcl5, hasg⟩)
  obtain ⟨t, a1, b1⟩ := kk (T.setVm vm') hT X'
  exact ⟨t, st.trans a1, b1⟩
end Rows9
section TCX
variable {p : Program} {l : Launch} {e : Env} {s : State} {m : MethodId} {args : Array Value} {below : List Frame} {meth : Method} {c : Code} {nL fr lo : Nat} {D : va_G} {aC : Nat → ClassId} {b0 : Nat} {σ0 : tM} {r : Option Value ⊕ String} {τ : tM} {pc : Nat} {lv : List (Nat × Value)} {st : List Value} {σ : tM} {own : String} {cc : ByteArray} {ret : Option FieldType}
/-- a callee that throws, caught here by the only row of the table -/
theorem zx_catchV (C : tCx p l s m args meth c own cc nL ret D aC b0 σ0) {x9 : ExceptionTableEntry} (pre suf : List ExceptionTableEntry) (htab : c.exceptionTable.toList = pre ++ x9 :: suf) (hpass : ∀ z ∈ pre, covers z pc = false) (hcov : covers x9 pc = true) (h0 : x9.catchType ≠ 0) {y : MethodName} {bytes : ByteArray} {maxL n idx f2 l2 ci b : Nat} {rt : Option FieldType} {E : String} {ρ : tM} (hlink : Cond.classLink own x9.catchType E ∈ lwg) (hcast : Cond.castable E E ∈ lwg) (As : List Value) (hc : tCl ci) (hk : tk σ b = .inl ci) (hi : tIn b0 σ b) (hY : tY y bytes maxL rt n) (hl0 : Cond.methodLink own idx y ∈ lwg) (hin : Cond.instanceMethod y ∈ lwg) (hse : Cond.selects (tcl ci).1 y y ∈ lwg)
    (hM : tMt l D aC b0 y (Cond.code y bytes maxL rt) f2 l2 (.ref b :: As) σ (.inr E) ρ) (hf : f2 + 1 ≤ fr) (hlo : 8 + (maxL + 11) + l2 ≤ lo) (hn : As.length = n) (hw : (st.map fun v => v.category).sum ≤ 8) (hd : decode cc pc = .ok (.invokevirtual idx, 3))
    {st0 : List Value} (hst : st0 = As.reverse ++ .ref b :: st) (k : ∀ q : Nat, tX p l e s m args below meth c nL fr lo D aC b0 σ0 r τ x9.handlerPc lv [.ref q] ρ) : tX p l e s m args below meth c nL fr lo D aC b0 σ0 r τ pc lv st0 σ := by
  have gk := (k 0).1
  have gm := hM.1
  refine ⟨⟨by omega, by omega⟩, fun h1 h2 H locs ls hl hP hS => zx_sized fun hz => ?_⟩
  have h9 := zx_size C.2.2.2.2.2.2.2.2 h1 hP hS hz
  obtain ⟨hx, hb, hrt, hml, hown, hts, hlk, ⟨hK, hO⟩, hsz⟩ := id C
  have he := tW_get (aC := aC) hi
  rw [tE_o hk] at he
  obtain ⟨c1, -⟩ := hc.at
  have hrun := vx_runV (p := p) (e := e) (R := tRm fr lo σ0 τ) (m := m) (below := below) (meth := meth) (H := H) (locs := locs) (cells := tn σ - tn σ0) (slots := tu σ - tu σ0) (g := F0 m pc ls st0) (rest := st) (As := As) (b := b) ⟨hx, hb, hml, hown, hts⟩ hM.2 ⟨hY.callB hts hl0 hf hlo, hts _ hin, hts _ hse⟩ ⟨tPc_blind, va_recv (q := ((tcl ci).1, (tcl ci).2.1, nF ci)) hK hP c1 he, fun U hU hW => ⟨rfl, ⟨by rw [hU]; exact hP, by rw [hU]; exact h9⟩, tWd.moved ⟨hK, hO⟩ hW (fun q hq => by rw [hU]; exact hS.2.1 q (by omega) (Nat.not_le.mpr hq))⟩⟩ rfl hn hl.1 hst (lv_room hw) hd ⟨by show _ ≤ tn τ - tn σ0; omega, by show _ ≤ tu τ - tu σ0; omega⟩
  intro T hT X
  rcases hrun T hT X with ⟨v1, st₀, t, T', L, h0', X', hL, e1, e2, ⟨⟨v2, hv, -⟩, -⟩, -⟩ | ⟨q, st₀, t, T', L, E2, ce, h0', X', hL, e1, e2, ⟨hE, hR, hold⟩, hce, hcv, hcl, st9⟩
  · cases hv
  · cases hE
    have a1 : tn σ - tn σ0 + (tn ρ - tn σ) = tn ρ - tn σ0 := by omega
    have a2 : tu σ - tu σ0 + (tu ρ - tu σ) = tu ρ - tu σ0 := by omega
    rw [a1, a2] at X'
    have K := vx_catch (rest := st) hown pre x9 suf htab (fun z hz => Or.inl (hpass z hz)) hcov h0 (hts _ hlink) (hts _ hcast) (by rw [e1]; exact hce) hcv hcl
      ((k q).2 (by omega) (by omega) T'.heap (locs ++ L) ls hl (by rw [e1]; exact hR.1) ⟨by rw [e1, hR.2]; omega, fun q2 hq2 hA => by
        rw [e1, hold q2 (Nat.not_le.mp hA), h0']
        exact hS.2.1 q2 hq2 hA, fun q2 hq2 => by
        rcases List.mem_append.mp hq2 with h | h
        · exact hS.2.2 q2 h
        · exact hL q2 h⟩)
    obtain ⟨t2, s1, s2⟩ := K T' rfl X'
    exact ⟨t2, st9.trans s1, s2⟩
end TCX
