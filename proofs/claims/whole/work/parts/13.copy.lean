/-! ===== arraycopy, switches ===== -/
def ckC {β : Type} (sp dp n : Int32) (n0 n1 : Nat) (k : Option β) : Option β := if (¬ sp < 0 ∧ ¬ dp < 0 ∧ ¬ n < 0) ∧ sp.toNatClampNeg + n.toNatClampNeg ≤ n0 ∧ dp.toNatClampNeg + n.toNatClampNeg ≤ n1 then k else none
theorem ckC_e {β : Type} {sp dp n : Int32} {n0 n1 : Nat} {k : Option β} {z : β} (h : ckC sp dp n n0 n1 k = some z) : ((¬ sp < 0 ∧ ¬ dp < 0 ∧ ¬ n < 0) ∧ sp.toNatClampNeg + n.toNatClampNeg ≤ n0 ∧ dp.toNatClampNeg + n.toNatClampNeg ≤ n1) ∧ k = some z := by
  unfold ckC at h
  split at h
  · rename_i hc; exact ⟨hc, h⟩
  · cases h
def ckF {β : Type} (f : Nat → Int32) (sp n : Int32) (k : Option β) : Option β := if ∀ i, i < n.toNatClampNeg → (f (sp.toNatClampNeg + i)).toInt8.toInt32 = f (sp.toNatClampNeg + i) then k else none
theorem ckF_e {β : Type} {f : Nat → Int32} {sp n : Int32} {k : Option β} {z : β} (h : ckF f sp n k = some z) : (∀ i, i < n.toNatClampNeg → fits .byte (.int (f (sp.toNatClampNeg + i))) = true) ∧ k = some z := by
  unfold ckF at h
  split at h
  · rename_i hc
    refine ⟨fun i hi => ?_, h⟩
    rw [← hc i hi]
    exact pk_fb _
  · cases h
section TK
variable {p : Program} {l : Launch} {e : Env} {s : State} {m : MethodId} {args : Array Value} {below : List Frame} {meth : Method} {c : Code} {nL fr lo : Nat} {D : va_G} {aC : Nat → ClassId} {b0 : Nat} {σ0 : tM} {r : Option Value ⊕ String} {τ : tM} {pc : Nat} {lv : List (Nat × Value)} {st : List Value} {σ : tM} {own : String} {cc : ByteArray} {ret : Option FieldType}
theorem zx_tabIn (C : tCx p l s m args meth c own cc nL ret D aC b0 σ0) {dflt lo9 hi9 : Int} {offs : Array Int} {len : Nat} {x : Int32} {off : Int} (tgt : Nat) (hd : decode cc pc = .ok (.tableswitch dflt lo9 hi9 offs, len)) (h1 : ¬ x.toInt < lo9) (h2 : ¬ hi9 < x.toInt) (ho : offs[(x.toInt - lo9).toNat]? = some off) (ht : (pc : Int) + off = (tgt : Int))
    (k : tX p l e s m args below meth c nL fr lo D aC b0 σ0 r τ tgt lv st σ) : tX p l e s m args below meth c nL fr lo D aC b0 σ0 r τ pc lv (.int x :: st) σ :=
  ⟨k.1, fun a b H locs ls hl hP hS => lv_tableIn C.1 C.2.1 hd h1 h2 ho ht (k.2 a b H locs ls hl hP hS)⟩
theorem zx_tabOut (C : tCx p l s m args meth c own cc nL ret D aC b0 σ0) {dflt lo9 hi9 : Int} {offs : Array Int} {len : Nat} {x : Int32} (tgt : Nat) (hd : decode cc pc = .ok (.tableswitch dflt lo9 hi9 offs, len)) (h : x.toInt < lo9 ∨ hi9 < x.toInt) (ht : (pc : Int) + dflt = (tgt : Int))
    (k : tX p l e s m args below meth c nL fr lo D aC b0 σ0 r τ tgt lv st σ) : tX p l e s m args below meth c nL fr lo D aC b0 σ0 r τ pc lv (.int x :: st) σ :=
  ⟨k.1, fun a b H locs ls hl hP hS => lv_tableOut C.1 C.2.1 hd h ht (k.2 a b H locs ls hl hP hS)⟩
theorem zx_copyI (C : tCx p l s m args meth c own cc nL ret D aC b0 σ0) {a a0 n0 n1 idx : Nat} {sp dp n : Int32} (w1 : Cond.methodLink own idx arraycopyName ∈ lwg) (w2 : Cond.native arraycopyName ∈ lwg) (w3 : Cond.static arraycopyName ∈ lwg) (w4 : Cond.initialized "java/lang/System" ∈ lwg) (hk0 : tk σ a0 = .inr (0, n0)) (hi0 : tIn b0 σ a0) (hk1 : tk σ a = .inr (0, n1)) (hi1 : tIn b0 σ a) (h : (¬ sp < 0 ∧ ¬ dp < 0 ∧ ¬ n < 0) ∧ sp.toNatClampNeg + n.toNatClampNeg ≤ n0 ∧ dp.toNatClampNeg + n.toNatClampNeg ≤ n1)  (hf : 1 ≤ fr) (hlo : 26 ≤ lo) (hw : (st.map fun v => v.category).sum ≤ 8) (hd : decode cc pc = .ok (.invokestatic idx, 3))
    (k : tX p l e s m args below meth c nL fr lo D aC b0 σ0 r τ (pc + 3) lv st (sIr σ a (va_cpy (tI σ a0) (tI σ a) sp.toNatClampNeg dp.toNatClampNeg n.toNatClampNeg))) : tX p l e s m args below meth c nL fr lo D aC b0 σ0 r τ pc lv (.int n :: .int dp :: .ref a :: .int sp :: .ref a0 :: st) σ := by
  refine ⟨k.1, fun h1 h2 H locs ls hl hP hS => ?_⟩
  obtain ⟨hx, hb, -, hml, hown, hts, -, ⟨hK, hO⟩, -⟩ := C
  have he0 := tW_get (aC := aC) hi0
  rw [tE_r hk0] at he0
  have he1 := tW_get (aC := aC) hi1
  rw [tE_r hk1] at he1
  have hnf : nativeFrameWords "java/lang/System" "arraycopy" 5 = 7 := by decide
  refine va_copyi hx hb (hml.trans hl.1.symm) hown (hts _ w1) (hts _ w2) (hts _ w3) (hts _ w4) hK hP tW_D hS (a0 - b0) (a - b0) 0 0 he0 he1 rfl rfl rfl h.1.1 h.1.2.1 h.1.2.2 h.2.1 h.2.2 (fun _ _ => rfl) hf (by show _ ≤ lo; rw [hnf]; omega) hd fun H1 locs1 q1 _ q3 => ?_
  have hw9 := tW_set (aC := aC) (τ := sIr σ a (va_cpy (tI σ a0) (tI σ a) sp.toNatClampNeg dp.toNatClampNeg n.toNatClampNeg)) hi1 rfl (fun b hb => tE_congr rfl (if_neg hb) rfl rfl)
  rw [tE_r (show tk (sIr σ a (va_cpy (tI σ a0) (tI σ a) sp.toNatClampNeg dp.toNatClampNeg n.toNatClampNeg)) a = .inr (0, n1) from hk1)] at hw9
  refine k.2 h1 h2 H1 locs1 ls hl ?_ q3
  rw [← hw9]
  refine cast (congrArg (fun z => va_P D vwC2 ((tW aC b0 σ).set (a - b0) (a, .inl (aC 0, n1, z))) H1) ?_) q1
  simp [tR, tI, sIr, va_up]
theorem zx_copyB (C : tCx p l s m args meth c own cc nL ret D aC b0 σ0) {a a0 n0 n1 idx : Nat} {sp dp n : Int32} (w1 : Cond.methodLink own idx arraycopyName ∈ lwg) (w2 : Cond.native arraycopyName ∈ lwg) (w3 : Cond.static arraycopyName ∈ lwg) (w4 : Cond.initialized "java/lang/System" ∈ lwg) (hk0 : tk σ a0 = .inr (1, n0)) (hi0 : tIn b0 σ a0) (hk1 : tk σ a = .inr (1, n1)) (hi1 : tIn b0 σ a) (h : (¬ sp < 0 ∧ ¬ dp < 0 ∧ ¬ n < 0) ∧ sp.toNatClampNeg + n.toNatClampNeg ≤ n0 ∧ dp.toNatClampNeg + n.toNatClampNeg ≤ n1) (hfit : ∀ i, i < n.toNatClampNeg → fits .byte (.int (tI σ a0 (sp.toNatClampNeg + i))) = true) (hf : 1 ≤ fr) (hlo : 26 ≤ lo) (hw : (st.map fun v => v.category).sum ≤ 8) (hd : decode cc pc = .ok (.invokestatic idx, 3))
    (k : tX p l e s m args below meth c nL fr lo D aC b0 σ0 r τ (pc + 3) lv st (sIr σ a (va_cpy (tI σ a0) (tI σ a) sp.toNatClampNeg dp.toNatClampNeg n.toNatClampNeg))) : tX p l e s m args below meth c nL fr lo D aC b0 σ0 r τ pc lv (.int n :: .int dp :: .ref a :: .int sp :: .ref a0 :: st) σ := by
  refine ⟨k.1, fun h1 h2 H locs ls hl hP hS => ?_⟩
  obtain ⟨hx, hb, -, hml, hown, hts, -, ⟨hK, hO⟩, -⟩ := C
  have he0 := tW_get (aC := aC) hi0
  rw [tE_r hk0] at he0
  have he1 := tW_get (aC := aC) hi1
  rw [tE_r hk1] at he1
  have hnf : nativeFrameWords "java/lang/System" "arraycopy" 5 = 7 := by decide
  refine va_copyi hx hb (hml.trans hl.1.symm) hown (hts _ w1) (hts _ w2) (hts _ w3) (hts _ w4) hK hP tW_D hS (a0 - b0) (a - b0) 1 1 he0 he1 rfl rfl rfl h.1.1 h.1.2.1 h.1.2.2 h.2.1 h.2.2 hfit hf (by show _ ≤ lo; rw [hnf]; omega) hd fun H1 locs1 q1 _ q3 => ?_
  have hw9 := tW_set (aC := aC) (τ := sIr σ a (va_cpy (tI σ a0) (tI σ a) sp.toNatClampNeg dp.toNatClampNeg n.toNatClampNeg)) hi1 rfl (fun b hb => tE_congr rfl (if_neg hb) rfl rfl)
  rw [tE_r (show tk (sIr σ a (va_cpy (tI σ a0) (tI σ a) sp.toNatClampNeg dp.toNatClampNeg n.toNatClampNeg)) a = .inr (1, n1) from hk1)] at hw9
  refine k.2 h1 h2 H1 locs1 ls hl ?_ q3
  rw [← hw9]
  refine cast (congrArg (fun z => va_P D vwC2 ((tW aC b0 σ).set (a - b0) (a, .inl (aC 1, n1, z))) H1) ?_) q1
  simp [tR, tI, sIr, va_up]
theorem zx_copyJ (C : tCx p l s m args meth c own cc nL ret D aC b0 σ0) {a a0 n0 n1 idx : Nat} {sp dp n : Int32} (w1 : Cond.methodLink own idx arraycopyName ∈ lwg) (w2 : Cond.native arraycopyName ∈ lwg) (w3 : Cond.static arraycopyName ∈ lwg) (w4 : Cond.initialized "java/lang/System" ∈ lwg) (hk0 : tk σ a0 = .inr (3, n0)) (hi0 : tIn b0 σ a0) (hk1 : tk σ a = .inr (3, n1)) (hi1 : tIn b0 σ a) (h : (¬ sp < 0 ∧ ¬ dp < 0 ∧ ¬ n < 0) ∧ sp.toNatClampNeg + n.toNatClampNeg ≤ n0 ∧ dp.toNatClampNeg + n.toNatClampNeg ≤ n1)  (hf : 1 ≤ fr) (hlo : 26 ≤ lo) (hw : (st.map fun v => v.category).sum ≤ 8) (hd : decode cc pc = .ok (.invokestatic idx, 3))
    (k : tX p l e s m args below meth c nL fr lo D aC b0 σ0 r τ (pc + 3) lv st (sLr σ a (va_cpy (tL σ a0) (tL σ a) sp.toNatClampNeg dp.toNatClampNeg n.toNatClampNeg))) : tX p l e s m args below meth c nL fr lo D aC b0 σ0 r τ pc lv (.int n :: .int dp :: .ref a :: .int sp :: .ref a0 :: st) σ := by
  refine ⟨k.1, fun h1 h2 H locs ls hl hP hS => ?_⟩
  obtain ⟨hx, hb, -, hml, hown, hts, -, ⟨hK, hO⟩, -⟩ := C
  have he0 := tW_get (aC := aC) hi0
  rw [tE_r hk0] at he0
  have he1 := tW_get (aC := aC) hi1
  rw [tE_r hk1] at he1
  have hnf : nativeFrameWords "java/lang/System" "arraycopy" 5 = 7 := by decide
  refine va_copyl hx hb (hml.trans hl.1.symm) hown (hts _ w1) (hts _ w2) (hts _ w3) (hts _ w4) hK hP tW_D hS (a0 - b0) (a - b0) 3 3 he0 he1 rfl rfl rfl h.1.1 h.1.2.1 h.1.2.2 h.2.1 h.2.2 (fun _ _ => rfl) hf (by show _ ≤ lo; rw [hnf]; omega) hd fun H1 locs1 q1 _ q3 => ?_
  have hw9 := tW_set (aC := aC) (τ := sLr σ a (va_cpy (tL σ a0) (tL σ a) sp.toNatClampNeg dp.toNatClampNeg n.toNatClampNeg)) hi1 rfl (fun b hb => tE_congr rfl rfl (if_neg hb) rfl)
  rw [tE_r (show tk (sLr σ a (va_cpy (tL σ a0) (tL σ a) sp.toNatClampNeg dp.toNatClampNeg n.toNatClampNeg)) a = .inr (3, n1) from hk1)] at hw9
  refine k.2 h1 h2 H1 locs1 ls hl ?_ q3
  rw [← hw9]
  refine cast (congrArg (fun z => va_P D vwC2 ((tW aC b0 σ).set (a - b0) (a, .inl (aC 3, n1, z))) H1) ?_) q1
  simp [tR, tL, sLr, va_up]
end TK
