/-! ===== CALLS, AND A METHOD'S CONTRACT OUT OF ITS BODY ===== -/
section TC
variable {p : Program} {l : Launch} {e : Env} {s : State} {m : MethodId} {args : Array Value} {below : List Frame} {meth : Method} {c : Code} {nL fr lo : Nat} {D : va_G} {aC : Nat → ClassId} {b0 : Nat} {σ0 : tM} {r : Option Value ⊕ String} {τ : tM} {pc : Nat} {lv : List (Nat × Value)} {st : List Value} {σ : tM} {own : String} {cc : ByteArray} {ret : Option FieldType}
/-- the method y's own words: its code stands in the tables, its class is set up, n arguments -/
def tY (y : MethodName) (bytes : ByteArray) (maxL : Nat) (rt : Option FieldType) (n : Nat) : Prop :=
  Cond.code y bytes maxL rt ∈ lwg ∧ Cond.initialized y.cls ∈ lwg ∧ (y.cls ≠ "java/lang/invoke/MethodHandle" ∧ y.cls ≠ "java/lang/invoke/VarHandle") ∧ (parseMethodDescriptor y.desc).map (fun d => d.parameters.length) = some n
theorem tPc_blind {av : List Value} : FrameBlind (tPc l D aC b0 av σ) := fun a U g mk q => ⟨q.1, q.2.1, tWd.moved (U := U.calling g mk a) q.2.2 (State.WarmedH.refl U) (fun _ _ => rfl)⟩
theorem tY.words {y : MethodName} {bytes : ByteArray} {maxL n : Nat} {rt : Option FieldType} (h : tY y bytes maxL rt n) (hts : ∀ w ∈ lwg, w.before args s = true) : ∀ w ∈ Cond.code y bytes maxL rt :: lwg, ∀ (a' : Array Value) (U : State), s.WarmedH U.vm → w.before a' U = true := by
  intro w hw a' U hW
  refine lwg_at hW hts w ?_
  rcases List.mem_cons.mp hw with e | h9
  · rw [e]; exact h.1
  · exact h9
theorem tY.sig {y : MethodName} {bytes : ByteArray} {maxL n : Nat} {rt : Option FieldType} (h : tY y bytes maxL rt n) : ∀ sig, parseMethodDescriptor y.desc = some sig → n = sig.parameters.length := fun sig hs => by
  have h9 := h.2.2.2
  rw [hs] at h9
  exact (Option.some.inj h9).symm
theorem tY.callB {y : MethodName} {bytes : ByteArray} {maxL n idx f2 l2 : Nat} {rt : Option FieldType} {ρ : tM} (h : tY y bytes maxL rt n) (hts : ∀ w ∈ lwg, w.before args s = true) (hl : Cond.methodLink own idx y ∈ lwg) (hf : f2 + 1 ≤ fr) (hlo : 8 + (maxL + 11) + l2 ≤ lo) : CallB (tRm fr lo σ0 τ) s args own idx y bytes maxL rt (Cond.code y bytes maxL rt :: lwg) (tRm f2 l2 σ ρ) (tn ρ - tn σ) (tu ρ - tu σ) n := by
  refine ⟨rfl, rfl, hf, hlo, h.words hts, List.mem_cons_self, hts _ h.1, hts _ h.2.1, h.2.2.1, fun sig hs => ?_, hts _ hl⟩
  have h9 := h.2.2.2
  rw [hs] at h9
  exact (Option.some.inj h9).symm
/-- what stands behind a call that came back -/
theorem zx_back {y : Array Value} {v : Option Value} {ρ : tM} {H : Heap} {locs : List Loc} {ls : Array Slot} {st0 : List Value}
    (C : tCx p l s m args meth c own cc nL ret D aC b0 σ0) (h1 : tn σ0 ≤ tn σ) (h2 : tu σ0 ≤ tu σ) (g : tn σ ≤ tn ρ ∧ tu σ ≤ tu ρ) (hl : lv_has ls nL lv) (hS : va_S (fun q => b0 ≤ q) s.heap H locs)
    (k : tX p l e s m args below meth c nL fr lo D aC b0 σ0 r τ (pc + 3) lv (v.toList ++ st) ρ)
    (hr : vx_Run p l e (tRm fr lo σ0 τ) s m args below meth c H locs (tn σ - tn σ0) (tu σ - tu σ0) (tn ρ - tn σ) (tu ρ - tu σ) (F0 m pc ls st0) st (tQc D aC b0 (.inl v) ρ y) (tXC D aC b0 (.inl v) ρ) (fun q => b0 ≤ q)) :
    W p l e (tRm fr lo σ0 τ) s m args below meth c H locs (tn σ - tn σ0) (tu σ - tu σ0) (vx_MQ below (tQc D aC b0 r τ) (tXC D aC b0 r τ) args s (tn τ - tn σ0) (tu τ - tu σ0) (fun q => b0 ≤ q)) (F0 m pc ls st0) := by
  intro T hT X
  rcases hr T hT X with ⟨v1, st₀, t, T', L, h0, X', hL, e1, e2, ⟨⟨v2, hv, hv2⟩, hR, hold⟩, go⟩ | ⟨q, st₀, t, T', L, E, ce, h0, X', hL, e1, e2, ⟨hE, -⟩, -⟩
  · cases hv
    cases hv2
    have hz : H.size ≤ s.heap.size + (tn σ - tn σ0) := by rw [← hT]; exact X.heapSize
    have hsz := C.2.2.2.2.2.2.2.2
    have a1 : tn σ - tn σ0 + (tn ρ - tn σ) = tn ρ - tn σ0 := by omega
    have a2 : tu σ - tu σ0 + (tu ρ - tu σ) = tu ρ - tu σ0 := by omega
    rw [a1, a2] at X'
    obtain ⟨t2, s1, s2⟩ := k.2 (by omega) (by omega) T'.heap (locs ++ L) ls hl (by rw [e1]; exact hR.1) ⟨by rw [e1, hR.2]; omega, fun q hq hA => by
        rw [e1, hold q (Nat.not_le.mp hA), h0]
        exact hS.2.1 q hq hA, fun q hq => by
        rcases List.mem_append.mp hq with h | h
        · exact hS.2.2 q h
        · exact hL q h⟩ T' rfl X'
    exact ⟨t2, go t2 s1, s2⟩
  · cases hE
theorem zx_callV (C : tCx p l s m args meth c own cc nL ret D aC b0 σ0) {y : MethodName} {bytes : ByteArray} {maxL n idx f2 l2 ci b : Nat} {rt : Option FieldType} {ρ : tM} {v : Option Value} (As : List Value) (hc : tCl ci) (hk : tk σ b = .inl ci) (hi : tIn b0 σ b) (hY : tY y bytes maxL rt n) (hl0 : Cond.methodLink own idx y ∈ lwg) (hin : Cond.instanceMethod y ∈ lwg) (hse : Cond.selects (tcl ci).1 y y ∈ lwg)
    (hM : tMt l D aC b0 y (Cond.code y bytes maxL rt) f2 l2 (.ref b :: As) σ (.inl v) ρ) (hf : f2 + 1 ≤ fr) (hlo : 8 + (maxL + 11) + l2 ≤ lo) (hn : As.length = n) (hw : (st.map fun v => v.category).sum ≤ 8) (hd : decode cc pc = .ok (.invokevirtual idx, 3))
    {st0 : List Value} (hst : st0 = As.reverse ++ .ref b :: st) (k : tX p l e s m args below meth c nL fr lo D aC b0 σ0 r τ (pc + 3) lv (v.toList ++ st) ρ) : tX p l e s m args below meth c nL fr lo D aC b0 σ0 r τ pc lv st0 σ := by
  have gk := k.1
  have gm := hM.1
  refine ⟨⟨by omega, by omega⟩, fun h1 h2 H locs ls hl hP hS => zx_sized fun hz => ?_⟩
  have hsz := C.2.2.2.2.2.2.2.2
  have h9 := zx_size hsz h1 hP hS hz
  obtain ⟨hx, hb, hrt, hml, hown, hts, hlk, ⟨hK, hO⟩, -⟩ := id C
  have he := tW_get (aC := aC) hi
  rw [tE_o hk] at he
  obtain ⟨c1, -⟩ := hc.at
  refine zx_back C h1 h2 gm hl hS k (vx_runV (As := As) (b := b) ⟨hx, hb, hml, hown, hts⟩ hM.2 ⟨hY.callB hts hl0 hf hlo, hts _ hin, hts _ hse⟩ ⟨tPc_blind, va_recv (q := ((tcl ci).1, (tcl ci).2.1, nF ci)) hK hP c1 he, fun U hU hW => ⟨rfl, ⟨by rw [hU]; exact hP, by rw [hU]; exact h9⟩, tWd.moved ⟨hK, hO⟩ hW (fun q hq => by rw [hU]; exact hS.2.1 q (by omega) (Nat.not_le.mpr hq))⟩⟩ rfl hn hl.1 hst (lv_room hw) hd ⟨by show _ ≤ tn τ - tn σ0; omega, by show _ ≤ tu τ - tu σ0; omega⟩)
theorem zx_callS (C : tCx p l s m args meth c own cc nL ret D aC b0 σ0) {y : MethodName} {bytes : ByteArray} {maxL n idx f2 l2 : Nat} {rt : Option FieldType} {ρ : tM} {v : Option Value} (As : List Value) (hY : tY y bytes maxL rt n) (hl0 : Cond.methodLink own idx y ∈ lwg) (hin : Cond.static y ∈ lwg)
    (hM : tMt l D aC b0 y (Cond.code y bytes maxL rt) f2 l2 As σ (.inl v) ρ) (hf : f2 + 1 ≤ fr) (hlo : 8 + (maxL + 11) + l2 ≤ lo) (hn : As.length = n) (hw : (st.map fun v => v.category).sum ≤ 8) (hd : decode cc pc = .ok (.invokestatic idx, 3))
    {st0 : List Value} (hst : st0 = As.reverse ++ st) (k : tX p l e s m args below meth c nL fr lo D aC b0 σ0 r τ (pc + 3) lv (v.toList ++ st) ρ) : tX p l e s m args below meth c nL fr lo D aC b0 σ0 r τ pc lv st0 σ := by
  have gk := k.1
  have gm := hM.1
  refine ⟨⟨by omega, by omega⟩, fun h1 h2 H locs ls hl hP hS => zx_sized fun hz => ?_⟩
  have hsz := C.2.2.2.2.2.2.2.2
  have h9 := zx_size hsz h1 hP hS hz
  obtain ⟨hx, hb, hrt, hml, hown, hts, hlk, ⟨hK, hO⟩, -⟩ := id C
  refine zx_back C h1 h2 gm hl hS k (vx_runS (As := As) ⟨hx, hb, hml, hown, hts⟩ hM.2 ⟨hY.callB hts hl0 hf hlo, hts _ hin⟩ ⟨tPc_blind, fun U hU hW => ⟨rfl, ⟨by rw [hU]; exact hP, by rw [hU]; exact h9⟩, tWd.moved ⟨hK, hO⟩ hW (fun q hq => by rw [hU]; exact hS.2.1 q (by omega) (Nat.not_le.mpr hq))⟩⟩ rfl hn hl.1 hst (lv_room hw) hd ⟨by show _ ≤ tn τ - tn σ0; omega, by show _ ≤ tu τ - tu σ0; omega⟩)
theorem tMt.met {y : MethodName} {hd : Cond} {fr lo : Nat} {av : List Value} {v : Option Value} {ρ : tM} (h : tMt l D aC b0 y hd fr lo av σ (.inl v) ρ) : Met l y (hd :: lwg) (tRm fr lo σ ρ) (tPc l D aC b0 av σ) (tQc D aC b0 (.inl v) ρ) (tn ρ - tn σ) (tu ρ - tu σ) (fun q => b0 ≤ q) := by
  intro p e h1 h2 h3 s m args below h4 h5 h6 h7
  obtain ⟨n, o, a1, a2, a3, a4⟩ := h.2 p e h1 h2 h3 s m args below h4 h5 h6 h7
  refine ⟨n, o, a1, a2, a3, ?_⟩
  rcases a4 with a4 | ⟨q, -, E, ce, L, ⟨hE, -⟩, -⟩
  · exact a4
  · cases hE
theorem zx_back2 {y : Array Value} {v : Option Value} {ρ : tM} {H : Heap} {locs : List Loc} {ls : Array Slot} {st0 : List Value}
    (C : tCx p l s m args meth c own cc nL ret D aC b0 σ0) (h1 : tn σ0 ≤ tn σ) (h2 : tu σ0 ≤ tu σ) (g : tn σ ≤ tn ρ ∧ tu σ ≤ tu ρ) (hl : lv_has ls nL lv) (hS : va_S (fun q => b0 ≤ q) s.heap H locs)
    (k : tX p l e s m args below meth c nL fr lo D aC b0 σ0 r τ (pc + 3) lv (v.toList ++ st) ρ)
    (hr : va_Run p l e (tRm fr lo σ0 τ) s m args below meth c H locs (tn σ - tn σ0) (tu σ - tu σ0) (tn ρ - tn σ) (tu ρ - tu σ) (F0 m pc ls st0) st (tQc D aC b0 (.inl v) ρ y) (fun q => b0 ≤ q)) :
    W p l e (tRm fr lo σ0 τ) s m args below meth c H locs (tn σ - tn σ0) (tu σ - tu σ0) (vx_MQ below (tQc D aC b0 r τ) (tXC D aC b0 r τ) args s (tn τ - tn σ0) (tu τ - tu σ0) (fun q => b0 ≤ q)) (F0 m pc ls st0) :=
  zx_back C h1 h2 g hl hS k (fun T hT X => Or.inl (hr T hT X))
/-- a constructor of a class called behind new -/
theorem zx_callI (C : tCx p l s m args meth c own cc nL ret D aC b0 σ0) {y : MethodName} {bytes : ByteArray} {maxL n idx f2 l2 b : Nat} {ρ : tM} (As : List Value) (hY : tY y bytes maxL none n) (hl0 : Cond.methodLink own idx y ∈ lwg) (hin : Cond.instanceMethod y ∈ lwg) (hy : y.name = "<init>")
    (hM : tMt l D aC b0 y (Cond.code y bytes maxL none) f2 l2 (.ref b :: As) σ (.inl none) ρ) (hf : f2 + 1 ≤ fr) (hlo : 8 + (maxL + 11) + l2 ≤ lo) (hn : As.length = n) (hw : (st.map fun v => v.category).sum ≤ 8) (hd : decode cc pc = .ok (.invokespecial idx, 3))
    {st0 : List Value} (hst : st0 = As.reverse ++ .ref b :: st) (k : tX p l e s m args below meth c nL fr lo D aC b0 σ0 r τ (pc + 3) lv st ρ) : tX p l e s m args below meth c nL fr lo D aC b0 σ0 r τ pc lv st0 σ := by
  have gk := k.1
  have gm := hM.1
  refine ⟨⟨by omega, by omega⟩, fun h1 h2 H locs ls hl hP hS => zx_sized fun hz => ?_⟩
  have h9 := zx_size C.2.2.2.2.2.2.2.2 h1 hP hS hz
  obtain ⟨hx, hb, hrt, hml, hown, hts, hlk, ⟨hK, hO⟩, -⟩ := id C
  exact zx_back2 (v := none) C h1 h2 gm hl hS k (va_runI (As := As) (b := b) ⟨hx, hb, hml, hown, hts⟩ hM.met ⟨hY.callB hts hl0 hf hlo, hy, hts _ hin⟩ ⟨tPc_blind, fun U hU hW => ⟨rfl, ⟨by rw [hU]; exact hP, by rw [hU]; exact h9⟩, tWd.moved ⟨hK, hO⟩ hW (fun q hq => by rw [hU]; exact hS.2.1 q (by omega) (Nat.not_le.mpr hq))⟩⟩ rfl hn hl.1 hst (lv_room hw) hd ⟨by show _ ≤ tn τ - tn σ0; omega, by show _ ≤ tu τ - tu σ0; omega⟩)
theorem zx_callIN (C : tCx p l s m args meth c own cc nL ret D aC b0 σ0) {host : String} {y : MethodName} {bytes : ByteArray} {maxL n idx f2 l2 b : Nat} {ρ : tM} (As : List Value) (hY : tY y bytes maxL none n) (hl0 : Cond.methodLinkNest own idx y host ∈ lwg) (hin : Cond.instanceMethod y ∈ lwg) (hy : y.name = "<init>")
    (hM : tMt l D aC b0 y (Cond.code y bytes maxL none) f2 l2 (.ref b :: As) σ (.inl none) ρ) (hf : f2 + 1 ≤ fr) (hlo : 8 + (maxL + 11) + l2 ≤ lo) (hn : As.length = n) (hw : (st.map fun v => v.category).sum ≤ 8) (hd : decode cc pc = .ok (.invokespecial idx, 3))
    {st0 : List Value} (hst : st0 = As.reverse ++ .ref b :: st) (k : tX p l e s m args below meth c nL fr lo D aC b0 σ0 r τ (pc + 3) lv st ρ) : tX p l e s m args below meth c nL fr lo D aC b0 σ0 r τ pc lv st0 σ := by
  have gk := k.1
  have gm := hM.1
  refine ⟨⟨by omega, by omega⟩, fun h1 h2 H locs ls hl hP hS => zx_sized fun hz => ?_⟩
  have h9 := zx_size C.2.2.2.2.2.2.2.2 h1 hP hS hz
  obtain ⟨hx, hb, hrt, hml, hown, hts, hlk, ⟨hK, hO⟩, -⟩ := id C
  refine zx_back2 (v := none) C h1 h2 gm hl hS k (va_runIN (As := As) (b := b) ⟨hx, hb, hml, hown, hts⟩ hM.met ⟨⟨⟨rfl, rfl, hf, hlo, hY.words hts, List.mem_cons_self⟩, hts _ hY.1, hts _ hY.2.1, hY.2.2.1, hY.sig, hts _ hl0⟩, hy, hts _ hin⟩ ⟨tPc_blind, fun U hU hW => ⟨rfl, ⟨by rw [hU]; exact hP, by rw [hU]; exact h9⟩, tWd.moved ⟨hK, hO⟩ hW (fun q hq => by rw [hU]; exact hS.2.1 q (by omega) (Nat.not_le.mpr hq))⟩⟩ rfl hn hl.1 hst (lv_room hw) hd ⟨by show _ ≤ tn τ - tn σ0; omega, by show _ ≤ tu τ - tu σ0; omega⟩)
/-- Object's own constructor -/
theorem zx_obj (C : tCx p l s m args meth c own cc nL ret D aC b0 σ0) {a idx : Nat} (h0 : Cond.methodLink own idx objectInit ∈ lwg) (h1 : Cond.instanceMethod objectInit ∈ lwg) (h2 : Cond.code objectInit ⟨#[0xb1]⟩ 1 none ∈ lwg) (hf : 1 ≤ fr) (hlo : 20 ≤ lo) (hw : (st.map fun v => v.category).sum ≤ 8) (hd : decode cc pc = .ok (.invokespecial idx, 3))
    (k : tX p l e s m args below meth c nL fr lo D aC b0 σ0 r τ (pc + 3) lv st σ) : tX p l e s m args below meth c nL fr lo D aC b0 σ0 r τ pc lv (.ref a :: st) σ := by
  refine ⟨k.1, fun g1 g2 H locs ls hl hP hS => ?_⟩
  obtain ⟨hx, hb, hrt, hml, hown, hts, hlk, ⟨hK, hO⟩, -⟩ := C
  exact W.objInit hx hb hown (hts _ h0) (hts _ h1) (hts _ h2) rfl (by rw [hml]; exact hl.1) rfl hd hf (by have := lv_room (m := m) (pc := pc) (ls := ls) (rest := .ref a :: st) hw; show _ ≤ lo; omega) (k.2 g1 g2 H locs ls hl hP hS)
/-- a callee that throws, and nothing here that catches it -/
theorem zx_outV (C : tCx p l s m args meth c own cc nL ret D aC b0 σ0) (htab : ∀ x ∈ c.exceptionTable.toList, False) {y : MethodName} {bytes : ByteArray} {maxL n idx f2 l2 ci b : Nat} {rt : Option FieldType} {E : String} (As : List Value) (hc : tCl ci) (hk : tk σ b = .inl ci) (hi : tIn b0 σ b) (hY : tY y bytes maxL rt n) (hl0 : Cond.methodLink own idx y ∈ lwg) (hin : Cond.instanceMethod y ∈ lwg) (hse : Cond.selects (tcl ci).1 y y ∈ lwg)
    (hM : tMt l D aC b0 y (Cond.code y bytes maxL rt) f2 l2 (.ref b :: As) σ (.inr E) τ) (hr : r = .inr E) (hf : f2 + 1 ≤ fr) (hlo : 8 + (maxL + 11) + l2 ≤ lo) (hn : As.length = n) (hw : (st.map fun v => v.category).sum ≤ 8) (hd : decode cc pc = .ok (.invokevirtual idx, 3))
    {st0 : List Value} (hst : st0 = As.reverse ++ .ref b :: st) : tX p l e s m args below meth c nL fr lo D aC b0 σ0 r τ pc lv st0 σ := by
  have gm := hM.1
  refine ⟨gm, fun h1 h2 H locs ls hl hP hS => zx_sized fun hz => ?_⟩
  have h9 := zx_size C.2.2.2.2.2.2.2.2 h1 hP hS hz
  obtain ⟨hx, hb, hrt, hml, hown, hts, hlk, ⟨hK, hO⟩, hsz⟩ := id C
  have he := tW_get (aC := aC) hi
  rw [tE_o hk] at he
  obtain ⟨c1, -⟩ := hc.at
  have hrun := vx_runV (p := p) (e := e) (R := tRm fr lo σ0 τ) (m := m) (below := below) (meth := meth) (H := H) (locs := locs) (cells := tn σ - tn σ0) (slots := tu σ - tu σ0) (g := F0 m pc ls st0) (rest := st) (As := As) (b := b) ⟨hx, hb, hml, hown, hts⟩ hM.2 ⟨hY.callB hts hl0 hf hlo, hts _ hin, hts _ hse⟩ ⟨tPc_blind, va_recv (q := ((tcl ci).1, (tcl ci).2.1, nF ci)) hK hP c1 he, fun U hU hW => ⟨rfl, ⟨by rw [hU]; exact hP, by rw [hU]; exact h9⟩, tWd.moved ⟨hK, hO⟩ hW (fun q hq => by rw [hU]; exact hS.2.1 q (by omega) (Nat.not_le.mpr hq))⟩⟩ rfl hn hl.1 hst (lv_room hw) hd ⟨by show _ ≤ tn τ - tn σ0; omega, by show _ ≤ tu τ - tu σ0; omega⟩
  intro T hT X
  rcases hrun T hT X with ⟨v1, st₀, t, T', L, h0, X', hL, e1, e2, ⟨⟨v2, hv, -⟩, -⟩, -⟩ | ⟨q, st₀, t, T', L, E2, ce, h0, X', hL, e1, e2, ⟨hE, hR, hold⟩, hce, hcv, hcl, st9⟩
  · cases hv
  · cases hE
    have a1 : tn σ - tn σ0 + (tn τ - tn σ) = tn τ - tn σ0 := by omega
    have a2 : tu σ - tu σ0 + (tu τ - tu σ) = tu τ - tu σ0 := by omega
    rw [a1, a2] at X'
    have K : vx_W p l e (tRm fr lo σ0 τ) s m args below meth c T'.heap (locs ++ L) (tn τ - tn σ0) (tu τ - tu σ0) (vx_MQ below (tQc D aC b0 r τ) (tXC D aC b0 r τ) args s (tn τ - tn σ0) (tu τ - tu σ0) (fun q => b0 ≤ q)) (F0 m pc ls st) q := by
      refine vx_out (E := E) (fun x hx => (htab x hx).elim) hlk (by rw [e1]; exact hce) hcv hcl (fun t2 ht2 _ => ⟨hr, by rw [ht2, e1]; exact hR, fun q2 hq2 => by rw [ht2, e1, hold q2 hq2, h0]; exact hS.2.1 q2 (by omega) (Nat.not_le.mpr hq2)⟩) (fun z hz2 => ?_) (Nat.le_refl _) (Nat.le_refl _)
      rcases List.mem_append.mp hz2 with h | h
      · exact hS.2.2 z h
      · exact hL z h
    obtain ⟨t2, s1, s2⟩ := K T' rfl X'
    exact ⟨t2, st9.trans s1, s2⟩
/-- a contract out of the walk of the body -/
theorem tMt_of {y : MethodName} {maxL n fr lo : Nat} {rt : Option FieldType} {cc : ByteArray} {av : List Value} (hy : plainName y.cls = true) (hlen : (lg_sl av).length ≤ maxL)
    (g : tn σ ≤ tn τ ∧ tu σ ≤ tu τ)
    (body : ∀ p e s m below meth c, tCx p l s m av.toArray meth c y.cls cc maxL rt D aC b0 σ → (∀ x ∈ c.exceptionTable.toList, False) → meth.name = y.name → tX p l e s m av.toArray below meth c maxL fr lo D aC b0 σ r τ 0 (lv_args 0 av) [] σ) : tMt l D aC b0 y (Cond.code y cc maxL rt) fr lo av σ r τ := by
  refine ⟨g, vx_ofW (cc := cc) (maxL := maxL) (ret := rt) hy rfl ?_⟩
  intro p e s m args below meth c s₁ B hml htab hv
  obtain ⟨rfl, hR, hK⟩ := hv
  have hts := atoms_spec (ws := Cond.code y cc maxL rt :: lwg) B.pre
  have hown : s.vm.findClass y.cls = some m.cls := findClass_of_methodNamed B.named
  have hin : meth.name = y.name := (name_of_methodNamed B.named B.method).1
  have C : tCx p l s m av.toArray meth c y.cls cc maxL rt D aC b0 σ := ⟨B.exec, B.bytes, B.returns, hml, hown, fun w hw => hts w (List.mem_cons_of_mem _ hw), B.notSynchronized, hK, hR.2⟩
  have K := (body p e s m below meth c C htab hin).2 (Nat.le_refl _) (Nat.le_refl _) s.heap []
  have hl := lv_entry av (n := maxL) hlen
  rw [lg_entry_eq]
  have K2 := K _ hl hR.1 va_S.rf
  rw [Nat.sub_self, Nat.sub_self] at K2
  exact K2
end TC
